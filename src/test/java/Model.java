import java.util.ArrayDeque;
import java.util.ArrayList;
import java.util.Arrays;
import java.util.Collections;
import java.util.Deque;
import java.util.List;
import java.util.regex.Matcher;
import java.util.regex.Pattern;

/** The document once more, in the plainest words of the Java library: with objects, lists and regular expressions. */
final class Model {
  static final int NO_SUCH = -1, BAD_VALUE = -2, BAD_TEXT = -3, TOO_MANY = -4, NOT_POSSIBLE = -5, NONE = -6;

  private enum Where { YARD, ROOF, LORRY, DELIVERED, CUT }

  private static final class Block {
    int[] sizes;
    int density;
    Where where = Where.YARD;
    int wet = 3;
    boolean cracked = false;
    int origin = NONE;

    int weight() {
      long product = 1L * sizes[0] * sizes[1] * sizes[2] * density;
      return (int) (product / 10000L);
    }

    Block copy() {
      Block copy = new Block();
      copy.sizes = sizes.clone();
      copy.density = density;
      copy.where = where;
      copy.wet = wet;
      copy.cracked = cracked;
      copy.origin = origin;
      return copy;
    }
  }

  private static final class Order {
    List<Integer> sizes;
    int how = 0;
    int block = NONE;
    int invoice = NONE;

    Order copy() {
      Order copy = new Order();
      copy.sizes = sizes;
      copy.how = how;
      copy.block = block;
      copy.invoice = invoice;
      return copy;
    }
  }

  private static final class Lorry {
    int[] limits = {4000, 8000, 10000};
    Integer[] places = new Integer[5];
    int trips = 0;

    Lorry copy() {
      Lorry copy = new Lorry();
      copy.limits = limits.clone();
      copy.places = places.clone();
      copy.trips = trips;
      return copy;
    }
  }

  private static final class Quarry {
    int[] settings = {2, 12, -3, 5};
    boolean frost = false;
    int nights = 0;
    List<Block> blocks = new ArrayList<>();
    List<Order> orders = new ArrayList<>();
    Lorry[] lorries = {new Lorry(), new Lorry(), new Lorry()};
    int lost = 0;

    Quarry copy() {
      Quarry copy = new Quarry();
      copy.settings = settings.clone();
      copy.frost = frost;
      copy.nights = nights;
      for (Block block : blocks) {
        copy.blocks.add(block.copy());
      }
      for (Order order : orders) {
        copy.orders.add(order.copy());
      }
      for (int lorry = 0; lorry < 3; lorry++) {
        copy.lorries[lorry] = lorries[lorry].copy();
      }
      copy.lost = lost;
      return copy;
    }
  }

  private static final String NUMBER = "(?:0|[1-9][0-9]{0,2})";
  private static final String ORDER = "(?:qNxNxN\\*N|cN\\.[0-9]@N|oNxNxN|gN=N|lN\\.[0-9][0-9]|n-?N|d[0-9])".replace("N", NUMBER);
  private static final Pattern TEXT = Pattern.compile(ORDER + "(?:;" + ORDER + ")*");
  private static final int[][] RANGES = {{0, 9}, {1, 99}, {-20, 0}, {0, 30}};

  private Quarry quarry = new Quarry();
  private final Deque<Quarry> history = new ArrayDeque<>();
  private final Quarry[] slots = new Quarry[2];
  private String pad = "";

  private static boolean outside(int number, int least, int most) {
    return number < least || number > most;
  }

  private static boolean noSize(int... sizes) {
    for (int size : sizes) {
      if (outside(size, 1, 300)) {
        return true;
      }
    }
    return false;
  }

  private boolean noBlock(int block) {
    return outside(block, 0, quarry.blocks.size() - 1);
  }

  private boolean noOrder(int order) {
    return outside(order, 0, quarry.orders.size() - 1);
  }

  private static boolean noLorry(int lorry) {
    return outside(lorry, 0, 2);
  }

  private int orderOf(int block) {
    for (int order = 0; order < quarry.orders.size(); order++) {
      if (quarry.orders.get(order).block == block) {
        return order;
      }
    }
    return NONE;
  }

  private int underRoof() {
    int found = 0;
    for (Block block : quarry.blocks) {
      found += block.where == Where.ROOF ? 1 : 0;
    }
    return found;
  }

  private static List<Integer> sorted(int... sizes) {
    List<Integer> list = new ArrayList<>();
    for (int size : sizes) {
      list.add(size);
    }
    list.sort(Collections.reverseOrder());
    return list;
  }

  /** The sum of what the sizes are more than the order's, or -1 if one is less, or more by more than OVER. */
  private int surplus(Order order, int... sizes) {
    List<Integer> own = sorted(sizes);
    int sum = 0;
    for (int at = 0; at < 3; at++) {
      int more = own.get(at) - order.sizes.get(at);
      if (more < 0 || more > quarry.settings[3]) {
        return -1;
      }
      sum += more;
    }
    return sum;
  }

  private boolean couldBeGiven(int order, int block) {
    Block stone = quarry.blocks.get(block);
    if (quarry.orders.get(order).how != 0 || stone.where == Where.DELIVERED || stone.where == Where.CUT) {
      return false;
    }
    return orderOf(block) == NONE && !stone.cracked && surplus(quarry.orders.get(order), stone.sizes) >= 0;
  }

  private static boolean atHand(Block block) {
    return block.where == Where.YARD || block.where == Where.ROOF;
  }

  /** Every change goes through here: what it answers without an error is recorded. */
  private int change(int[] call) {
    Quarry before = quarry.copy();
    int answer = call[0] == -1 ? restoreSlot(call[1]) : changed(call);
    if (answer >= 0) {
      history.addLast(before);
      if (history.size() > 6) {
        history.removeFirst();
      }
    }
    return answer;
  }

  private int changed(int[] call) {
    switch (call[0]) {
      case 0: return setTo(call[1], call[2]);
      case 1: return quarried(call[1], call[2], call[3], call[4]);
      case 2: return cutAt(call[1], call[2], call[3]);
      case 3: return sheltered(call[1]);
      case 4: return ordered(call[1], call[2], call[3]);
      case 5: return given(call[1], call[2]);
      case 6: return takenBack(call[1]);
      case 7: return limited(call[1], call[2], call[3], call[4]);
      case 8: return loaded(call[1], call[2], call[3]);
      case 9: return unloaded(call[1]);
      case 10: return left(call[1]);
      case 11: return slept(call[1]);
      default: throw new IllegalStateException();
    }
  }

  int set(int setting, int value) {
    return change(new int[] {0, setting, value});
  }

  int quarry(int size, int other, int third, int density) {
    return change(new int[] {1, size, other, third, density});
  }

  int cut(int block, int across, int at) {
    return change(new int[] {2, block, across, at});
  }

  int shelter(int block) {
    return change(new int[] {3, block});
  }

  int order(int size, int other, int third) {
    return change(new int[] {4, size, other, third});
  }

  int give(int order, int block) {
    return change(new int[] {5, order, block});
  }

  int takeBack(int order) {
    return change(new int[] {6, order});
  }

  int limits(int lorry, int front, int rear, int load) {
    return change(new int[] {7, lorry, front, rear, load});
  }

  int load(int block, int lorry, int place) {
    return change(new int[] {8, block, lorry, place});
  }

  int unload(int block) {
    return change(new int[] {9, block});
  }

  int leave(int lorry) {
    return change(new int[] {10, lorry});
  }

  int night(int degrees) {
    return change(new int[] {11, degrees});
  }

  int restore(int slot) {
    return change(new int[] {-1, slot});
  }

  private int setTo(int setting, int value) {
    if (outside(setting, 0, 3) || outside(value, RANGES[setting][0], RANGES[setting][1])) {
      return BAD_VALUE;
    }
    int previous = quarry.settings[setting];
    quarry.settings[setting] = value;
    return previous + 100;
  }

  private int quarried(int size, int other, int third, int density) {
    if (noSize(size, other, third) || outside(density, 20, 30)) {
      return BAD_VALUE;
    }
    if (quarry.blocks.size() == 24) {
      return TOO_MANY;
    }
    Block block = new Block();
    block.sizes = new int[] {size, other, third};
    block.density = density;
    quarry.blocks.add(block);
    return quarry.blocks.size() - 1;
  }

  private int cutAt(int block, int across, int at) {
    if (noBlock(block)) {
      return NO_SUCH;
    }
    if (outside(across, 0, 2) || outside(at, 1, 300)) {
      return BAD_VALUE;
    }
    Block stone = quarry.blocks.get(block);
    int second = stone.sizes[across] - quarry.settings[0] - at;
    if (quarry.frost || !atHand(stone) || orderOf(block) != NONE || second < 1) {
      return NOT_POSSIBLE;
    }
    if (quarry.blocks.size() > 22) {
      return TOO_MANY;
    }
    boolean roofed = stone.where == Where.ROOF;
    stone.where = Where.CUT;
    int pieces = 0;
    for (int length : new int[] {at, second}) {
      Block piece = stone.copy();
      piece.sizes[across] = length;
      piece.origin = block;
      piece.where = roofed && underRoof() < 4 ? Where.ROOF : Where.YARD;
      quarry.blocks.add(piece);
      pieces += piece.weight();
    }
    quarry.lost += stone.weight() - pieces;
    return quarry.blocks.size() - 2;
  }

  private int sheltered(int block) {
    if (noBlock(block)) {
      return NO_SUCH;
    }
    Block stone = quarry.blocks.get(block);
    if (stone.where == Where.ROOF) {
      stone.where = Where.YARD;
      return 0;
    }
    if (stone.where != Where.YARD) {
      return NOT_POSSIBLE;
    }
    if (underRoof() == 4) {
      return TOO_MANY;
    }
    stone.where = Where.ROOF;
    return 1;
  }

  private int ordered(int size, int other, int third) {
    if (noSize(size, other, third)) {
      return BAD_VALUE;
    }
    if (quarry.orders.size() == 10) {
      return TOO_MANY;
    }
    Order order = new Order();
    order.sizes = sorted(size, other, third);
    quarry.orders.add(order);
    return quarry.orders.size() - 1;
  }

  private int given(int order, int block) {
    if (noOrder(order) || noBlock(block)) {
      return NO_SUCH;
    }
    if (!couldBeGiven(order, block)) {
      return NOT_POSSIBLE;
    }
    quarry.orders.get(order).how = 1;
    quarry.orders.get(order).block = block;
    return surplus(quarry.orders.get(order), quarry.blocks.get(block).sizes);
  }

  private int takenBack(int order) {
    if (noOrder(order)) {
      return NO_SUCH;
    }
    Order one = quarry.orders.get(order);
    if (one.how != 1) {
      return NOT_POSSIBLE;
    }
    int block = one.block;
    one.how = 0;
    one.block = NONE;
    return block;
  }

  private int limited(int lorry, int front, int rear, int load) {
    if (noLorry(lorry)) {
      return NO_SUCH;
    }
    if (outside(front, 100, 30000) || outside(rear, 100, 30000) || outside(load, 100, 30000)) {
      return BAD_VALUE;
    }
    quarry.lorries[lorry].limits = new int[] {front, rear, load};
    return 1;
  }

  private int loadOn(Lorry lorry) {
    int sum = 0;
    for (Integer block : lorry.places) {
      sum += block == null ? 0 : quarry.blocks.get(block).weight();
    }
    return sum;
  }

  private int loaded(int block, int lorry, int place) {
    if (noBlock(block) || noLorry(lorry) || outside(place, 0, 4)) {
      return NO_SUCH;
    }
    Lorry one = quarry.lorries[lorry];
    if (!atHand(quarry.blocks.get(block)) || one.places[place] != null) {
      return NOT_POSSIBLE;
    }
    one.places[place] = block;
    quarry.blocks.get(block).where = Where.LORRY;
    return loadOn(one);
  }

  private int unloaded(int block) {
    if (noBlock(block)) {
      return NO_SUCH;
    }
    for (Lorry lorry : quarry.lorries) {
      int place = Arrays.asList(lorry.places).indexOf(block);
      if (place >= 0) {
        lorry.places[place] = null;
        quarry.blocks.get(block).where = Where.YARD;
        return loadOn(lorry);
      }
    }
    return NOT_POSSIBLE;
  }

  private int left(int lorry) {
    if (noLorry(lorry)) {
      return NO_SUCH;
    }
    if (why(lorry) != 0) {
      return NOT_POSSIBLE;
    }
    Lorry one = quarry.lorries[lorry];
    int together = 0;
    for (int place = 0; place < 5; place++) {
      if (one.places[place] != null) {
        Block block = quarry.blocks.get(one.places[place]);
        block.where = Where.DELIVERED;
        int order = orderOf(one.places[place]);
        if (order != NONE) {
          int begun = block.weight() / 100 + (block.weight() % 100 > 0 ? 1 : 0);
          quarry.orders.get(order).how = 2;
          quarry.orders.get(order).invoice = begun * quarry.settings[1];
          together += begun * quarry.settings[1];
        }
        one.places[place] = null;
      }
    }
    one.trips++;
    return together;
  }

  private int slept(int degrees) {
    if (outside(degrees, -40, 40)) {
      return BAD_VALUE;
    }
    if (quarry.nights == 999) {
      return NOT_POSSIBLE;
    }
    quarry.frost = degrees <= quarry.settings[2];
    int cracked = 0;
    for (Block block : quarry.blocks) {
      if (quarry.frost && block.where == Where.YARD && block.wet > 0 && !block.cracked) {
        block.cracked = true;
        cracked++;
      }
      if (block.wet > 0 && block.where != Where.DELIVERED && block.where != Where.CUT) {
        block.wet--;
      }
    }
    quarry.nights++;
    return cracked;
  }

  int of(int block, int what) {
    if (noBlock(block)) {
      return NO_SUCH;
    }
    Block stone = quarry.blocks.get(block);
    switch (what) {
      case 0: case 1: case 2: return stone.sizes[what];
      case 3: return stone.density;
      case 4: return stone.weight();
      case 5: return stone.where.ordinal();
      case 6: return stone.wet;
      case 7: return stone.cracked ? 1 : 0;
      case 8: return orderOf(block);
      case 9: return spotOf(block);
      case 10: return stone.origin;
      default: return BAD_VALUE;
    }
  }

  private int spotOf(int block) {
    for (int lorry = 0; lorry < 3; lorry++) {
      int place = Arrays.asList(quarry.lorries[lorry].places).indexOf(block);
      if (place >= 0) {
        return 5 * lorry + place;
      }
    }
    return NONE;
  }

  int ofOrder(int order, int what) {
    if (noOrder(order)) {
      return NO_SUCH;
    }
    Order one = quarry.orders.get(order);
    switch (what) {
      case 0: case 1: case 2: return one.sizes.get(what);
      case 3: return one.how;
      case 4: return one.block;
      case 5: return one.invoice;
      case 6:
        int set = 0;
        for (int block = 0; block < quarry.blocks.size(); block++) {
          set += couldBeGiven(order, block) ? 1 << block : 0;
        }
        return set;
      default: return BAD_VALUE;
    }
  }

  private float axle(Integer[] places, boolean rear) {
    float sum = 0.0f;
    for (int place = 0; place < 5; place++) {
      if (places[place] != null) {
        int weight = quarry.blocks.get(places[place]).weight();
        sum = sum + (rear ? (float) weight * (float) place / 4.0f : (float) weight * (float) (4 - place) / 4.0f);
      }
    }
    return sum;
  }

  int ofLorry(int lorry, int what) {
    if (noLorry(lorry)) {
      return NO_SUCH;
    }
    Lorry one = quarry.lorries[lorry];
    switch (what) {
      case 0: return loadOn(one);
      case 1: return Float.floatToIntBits(axle(one.places, false));
      case 2: return Float.floatToIntBits(axle(one.places, true));
      case 3:
        int set = 0;
        for (Integer block : one.places) {
          set |= block == null ? 0 : 1 << block;
        }
        return set;
      case 4: case 5: case 6: return one.limits[what - 4];
      case 7: return one.trips;
      default: return BAD_VALUE;
    }
  }

  int count(int what) {
    int roofed = 0;
    int cracked = 0;
    int quarried = 0;
    int uncut = 0;
    int delivered = 0;
    int coins = 0;
    for (int number = 0; number < quarry.blocks.size(); number++) {
      Block block = quarry.blocks.get(number);
      roofed |= block.where == Where.ROOF ? 1 << number : 0;
      cracked |= block.cracked && block.where != Where.CUT ? 1 << number : 0;
      quarried += block.origin == NONE ? block.weight() : 0;
      uncut += block.where == Where.CUT ? 0 : block.weight();
      delivered += block.where == Where.DELIVERED ? block.weight() : 0;
    }
    for (Order order : quarry.orders) {
      coins += Math.max(order.invoice, 0);
    }
    int[] answers = {quarry.nights, quarry.blocks.size(), quarry.orders.size(), quarry.frost ? 1 : 0, roofed, cracked, quarried, uncut,
        quarry.lost, delivered, coins, quarry.settings[1], quarry.settings[0], quarry.settings[2] + 100, quarry.settings[3],
        pad.length(), history.size()};
    return outside(what, 0, answers.length - 1) ? BAD_VALUE : answers[what];
  }

  long meanWeight() {
    int blocks = 0;
    for (Block block : quarry.blocks) {
      blocks += block.where == Where.CUT ? 0 : 1;
    }
    return Double.doubleToLongBits(blocks == 0 ? 0.0 : (double) count(7) / (double) blocks);
  }

  int why(int lorry) {
    if (noLorry(lorry)) {
      return NO_SUCH;
    }
    Lorry one = quarry.lorries[lorry];
    boolean empty = true;
    boolean cracked = false;
    for (Integer block : one.places) {
      empty &= block == null;
      cracked |= block != null && quarry.blocks.get(block).cracked;
    }
    boolean[] reasons = {empty, cracked, loadOn(one) > one.limits[2], axle(one.places, false) > (float) one.limits[0],
        axle(one.places, true) > (float) one.limits[1]};
    for (int reason = 0; reason < reasons.length; reason++) {
      if (reasons[reason]) {
        return reason + 1;
      }
    }
    return 0;
  }

  int bestBlock(int order) {
    if (noOrder(order)) {
      return NO_SUCH;
    }
    if (quarry.orders.get(order).how != 0) {
      return NOT_POSSIBLE;
    }
    for (int sum = 0; sum <= 90; sum++) {
      for (int block = 0; block < quarry.blocks.size(); block++) {
        if (couldBeGiven(order, block) && surplus(quarry.orders.get(order), quarry.blocks.get(block).sizes) == sum) {
          return block;
        }
      }
    }
    return NONE;
  }

  /** It tries the cuts out, one after the other. */
  int fittingCut(int order, int block, int what) {
    if (noOrder(order) || noBlock(block)) {
      return NO_SUCH;
    }
    if (outside(what, 0, 1)) {
      return BAD_VALUE;
    }
    Block stone = quarry.blocks.get(block);
    if (quarry.frost || !atHand(stone) || orderOf(block) != NONE) {
      return NOT_POSSIBLE;
    }
    for (int across = 0; across < 3; across++) {
      for (int at = 1; at <= 300; at++) {
        int[] sizes = stone.sizes.clone();
        sizes[across] = at;
        boolean possible = stone.sizes[across] - at - quarry.settings[0] >= 1;
        if (possible && !stone.cracked && surplus(quarry.orders.get(order), sizes) >= 0) {
          return what == 0 ? across : at;
        }
      }
    }
    return NONE;
  }

  int ifFrost() {
    int set = 0;
    for (int number = 0; number < quarry.blocks.size(); number++) {
      Block block = quarry.blocks.get(number);
      set |= block.where == Where.YARD && block.wet > 0 && !block.cracked ? 1 << number : 0;
    }
    return set;
  }

  int bestPlace(int block, int lorry) {
    if (noBlock(block) || noLorry(lorry)) {
      return NO_SUCH;
    }
    if (!atHand(quarry.blocks.get(block))) {
      return NOT_POSSIBLE;
    }
    Lorry one = quarry.lorries[lorry];
    int best = NONE;
    float least = Float.POSITIVE_INFINITY;
    for (int place = 0; place < 5; place++) {
      if (one.places[place] == null) {
        Integer[] then = one.places.clone();
        then[place] = block;
        float front = axle(then, false) / (float) one.limits[0];
        float rear = axle(then, true) / (float) one.limits[1];
        float greater = Math.max(front, rear);
        if (greater < least) {
          best = place;
          least = greater;
        }
      }
    }
    return best;
  }

  int put(long characters) {
    StringBuilder text = new StringBuilder();
    for (int at = 0; at < 8; at++) {
      int code = (int) (characters >>> (56 - 8 * at) & 255);
      boolean ahead = code == 0 && text.length() == 0;
      if (!ahead && (code < 33 || code > 126)) {
        return BAD_VALUE;
      }
      if (!ahead) {
        text.append((char) code);
      }
    }
    if (text.length() == 0) {
      return BAD_VALUE;
    }
    if (pad.length() + text.length() > 80) {
      return TOO_MANY;
    }
    pad = pad + text;
    return pad.length();
  }

  int wipe() {
    int length = pad.length();
    pad = "";
    return length;
  }

  /** A character can stand at its place if what is read with it can go on to be a text, or is one. */
  int fault() {
    for (int at = 0; at < pad.length(); at++) {
      Matcher matcher = TEXT.matcher(pad.substring(0, at + 1));
      if (!matcher.matches() && !matcher.hitEnd()) {
        return at;
      }
    }
    return TEXT.matcher(pad).matches() ? NONE : pad.length();
  }

  int carryOut() {
    if (fault() != NONE) {
      return BAD_TEXT;
    }
    Quarry before = quarry.copy();
    int done = 0;
    for (String order : pad.split(";")) {
      if (changed(callOf(order)) < 0) {
        break;
      }
      done++;
    }
    pad = "";
    history.addLast(before);
    if (history.size() > 6) {
      history.removeFirst();
    }
    return done;
  }

  private static int[] callOf(String order) {
    char kind = order.charAt(0);
    String rest = order.substring(1);
    if (kind == 'n') {
      return new int[] {11, Integer.parseInt(rest)};
    }
    if (kind == 'l') {
      String[] parts = rest.split("[.]");
      return new int[] {8, Integer.parseInt(parts[0]), parts[1].charAt(0) - '0', parts[1].charAt(1) - '0'};
    }
    String[] parts = rest.split("[^0-9]");
    int[] call = new int[parts.length + 1];
    call[0] = kind == 'q' ? 1 : kind == 'c' ? 2 : kind == 'o' ? 4 : kind == 'g' ? 5 : 10;
    for (int part = 0; part < parts.length; part++) {
      call[part + 1] = Integer.parseInt(parts[part]);
    }
    return call;
  }

  int undo() {
    if (history.isEmpty()) {
      return NOT_POSSIBLE;
    }
    quarry = history.removeLast();
    return history.size();
  }

  int save(int slot) {
    if (outside(slot, 0, 1)) {
      return BAD_VALUE;
    }
    slots[slot] = quarry.copy();
    return quarry.blocks.size();
  }

  private int restoreSlot(int slot) {
    if (outside(slot, 0, 1)) {
      return BAD_VALUE;
    }
    if (slots[slot] == null) {
      return NOT_POSSIBLE;
    }
    quarry = slots[slot].copy();
    return quarry.blocks.size();
  }
}
