/** Quarry stone orders by cut, lorry weight and frost stop. */
public final class QuarryOrders {
  public static final int NO_SUCH = -1, BAD_VALUE = -2, BAD_TEXT = -3, TOO_MANY = -4, NOT_POSSIBLE = -5, NONE = -6;
  public static final int SAW = 0, PRICE = 1, FROST = 2, OVER = 3;

  private static final int[] LEAST_SETTING = {0, 1, -20, 0};
  private static final int[] MOST_SETTING = {9, 99, 0, 30};

  private static final int MOST_BLOCKS = 24, MOST_ORDERS = 10, LORRIES = 3, PLACES = 5;
  private static final int SIZES = 3, MOST_SIZE = 300, ROOF_ROOM = 4, WET_NIGHTS = 3, MOST_NIGHTS = 999;
  private static final int SLOTS = 2, HISTORY = 6, PAD = 80;

  // Where a block is, and how an order is.
  private static final int YARD = 0, ROOF = 1, ON_LORRY = 2, DELIVERED = 3, CUT = 4;
  private static final int OPEN = 0, GIVEN = 1, DONE = 2;

  // The numbers of a block stand as of() tells them, those of an order as ofOrder() does: what is asked for is read as it is.
  private static final int DENSITY = 3, WEIGHT = 4, WHERE = 5, WET = 6, CRACKED = 7, OWNER = 8, SPOT = 9, ORIGIN = 10;
  private static final int HOW = 3, STONE = 4, INVOICE = 5;
  private static final int FRONT = 0, REAR = 1, LOAD = 2, TRIPS = 3;
  private static final int BLOCK_CELLS = 11, ORDER_CELLS = 6, LORRY_CELLS = 4;

  // The row of a state: the settings by their numbers, then these.
  private static final int FROST_NOW = 4, NIGHTS = 5, BLOCKS = 6, ORDERS = 7;
  private static final int FIRST_BLOCK = 8;
  private static final int FIRST_ORDER = FIRST_BLOCK + MOST_BLOCKS * BLOCK_CELLS;
  private static final int FIRST_LORRY = FIRST_ORDER + MOST_ORDERS * ORDER_CELLS;
  private static final int CELLS = FIRST_LORRY + LORRIES * LORRY_CELLS;

  private final State state;
  private final Facts facts;
  private final Works works;
  private final History history;
  private final Slots slots;
  private final Pad pad;

  public QuarryOrders() {
    state = new State();
    facts = new Facts(state);
    works = new Works(state, facts);
    history = new History();
    slots = new Slots();
    pad = new Pad();
  }

  // ---- changes

  public int set(int setting, int value) {
    history.note(state);
    return history.settle(works.changeSetting(setting, value));
  }

  public int quarry(int size, int other, int third, int density) {
    history.note(state);
    return history.settle(works.quarryBlock(size, other, third, density));
  }

  public int cut(int block, int across, int at) {
    history.note(state);
    return history.settle(works.cutBlock(block, across, at));
  }

  public int shelter(int block) {
    history.note(state);
    return history.settle(works.moveBlock(block));
  }

  public int order(int size, int other, int third) {
    history.note(state);
    return history.settle(works.takeOrder(size, other, third));
  }

  public int give(int order, int block) {
    history.note(state);
    return history.settle(works.giveBlock(order, block));
  }

  public int takeBack(int order) {
    history.note(state);
    return history.settle(works.takeBlockAway(order));
  }

  public int limits(int lorry, int front, int rear, int load) {
    history.note(state);
    return history.settle(works.changeLimits(lorry, front, rear, load));
  }

  public int load(int block, int lorry, int place) {
    history.note(state);
    return history.settle(works.loadBlock(block, lorry, place));
  }

  public int unload(int block) {
    history.note(state);
    return history.settle(works.unloadBlock(block));
  }

  public int leave(int lorry) {
    history.note(state);
    return history.settle(works.sendLorry(lorry));
  }

  public int night(int degrees) {
    history.note(state);
    return history.settle(works.passNight(degrees));
  }

  // ---- what there is

  public int of(int block, int what) {
    if (!state.hasBlock(block)) {
      return NO_SUCH;
    }
    return what < 0 || what >= BLOCK_CELLS ? BAD_VALUE : state.blockCell(block, what);
  }

  public int ofOrder(int order, int what) {
    if (!state.hasOrder(order)) {
      return NO_SUCH;
    }
    if (what < 0 || what > ORDER_CELLS) {
      return BAD_VALUE;
    }
    return what == ORDER_CELLS ? facts.blocksToGive(order) : state.orderCell(order, what);
  }

  public int ofLorry(int lorry, int what) {
    if (!isLorry(lorry)) {
      return NO_SUCH;
    }
    switch (what) {
      case 0: return facts.loadOf(lorry);
      case 1: return Bits.ofFloat(facts.front(lorry, NONE, 0));
      case 2: return Bits.ofFloat(facts.rear(lorry, NONE, 0));
      case 3: return facts.blocksOn(lorry);
      case 4: return state.lorryCell(lorry, FRONT);
      case 5: return state.lorryCell(lorry, REAR);
      case 6: return state.lorryCell(lorry, LOAD);
      case 7: return state.lorryCell(lorry, TRIPS);
      default: return BAD_VALUE;
    }
  }

  public int count(int what) {
    switch (what) {
      case 0: return state.cell(NIGHTS);
      case 1: return state.cell(BLOCKS);
      case 2: return state.cell(ORDERS);
      case 3: return state.cell(FROST_NOW);
      case 4: return state.blocksWith(WHERE, ROOF);
      case 5: return state.blocksWith(CRACKED, 1) & facts.uncutBlocks();
      case 6: return facts.quarriedWeight();
      case 7: return facts.uncutWeight();
      case 8: return facts.lostWeight();
      case 9: return facts.weightOf(state.blocksWith(WHERE, DELIVERED));
      case 10: return facts.allInvoices();
      case 11: return state.cell(PRICE);
      case 12: return state.cell(SAW);
      case 13: return state.cell(FROST) + 100;
      case 14: return state.cell(OVER);
      case 15: return pad.length();
      case 16: return history.size();
      default: return BAD_VALUE;
    }
  }

  public long meanWeight() {
    int blocks = Integer.bitCount(facts.uncutBlocks());
    return blocks == 0 ? 0L : Bits.ofDouble((double) facts.uncutWeight() / (double) blocks);
  }

  // ---- what if; nothing changes

  public int why(int lorry) {
    return isLorry(lorry) ? facts.reasonToStay(lorry) : NO_SUCH;
  }

  public int bestBlock(int order) {
    if (!state.hasOrder(order)) {
      return NO_SUCH;
    }
    return state.orderCell(order, HOW) == OPEN ? facts.nearestBlock(order) : NOT_POSSIBLE;
  }

  public int fittingCut(int order, int block, int what) {
    if (!state.hasOrder(order) || !state.hasBlock(block)) {
      return NO_SUCH;
    }
    if (what != 0 && what != 1) {
      return BAD_VALUE;
    }
    if (!facts.mayBeSawn(block)) {
      return NOT_POSSIBLE;
    }
    for (int across = 0; across < SIZES; across++) {
      int length = facts.fittingLength(order, block, across);
      if (length != NONE) {
        return what == 0 ? across : length;
      }
    }
    return NONE;
  }

  public int ifFrost() {
    return facts.blocksForFrost() & state.blocksWith(CRACKED, 0);
  }

  public int bestPlace(int block, int lorry) {
    if (!state.hasBlock(block) || !isLorry(lorry)) {
      return NO_SUCH;
    }
    return facts.isAtHand(block) ? facts.easiestPlace(block, lorry) : NOT_POSSIBLE;
  }

  // ---- texts

  public int put(long characters) {
    return pad.append(characters);
  }

  public int wipe() {
    return pad.clear();
  }

  public int fault() {
    return pad.findFault();
  }

  public int carryOut() {
    if (pad.findFault() != NONE) {
      return BAD_TEXT;
    }
    history.note(state);
    pad.rewind();
    int done = 0;
    while (done < PAD && pad.readOrder() && carryOrder() >= 0) {
      done++;
    }
    pad.clear();
    return history.settle(done);
  }

  private int carryOrder() {
    switch (pad.kind()) {
      case 'q': return works.quarryBlock(pad.number(0), pad.number(1), pad.number(2), pad.number(3));
      case 'c': return works.cutBlock(pad.number(0), pad.number(1), pad.number(2));
      case 'o': return works.takeOrder(pad.number(0), pad.number(1), pad.number(2));
      case 'g': return works.giveBlock(pad.number(0), pad.number(1));
      case 'l': return works.loadBlock(pad.number(0), pad.number(1), pad.number(2));
      case 'n': return works.passNight(pad.number(0));
      case 'd': return works.sendLorry(pad.number(0));
      default: return BAD_TEXT;
    }
  }

  // ---- undo, saving

  public int undo() {
    return history.goBack(state);
  }

  public int save(int slot) {
    return isSlot(slot) ? slots.keep(slot, state) : BAD_VALUE;
  }

  public int restore(int slot) {
    if (!isSlot(slot)) {
      return BAD_VALUE;
    }
    history.note(state);
    return history.settle(slots.bring(slot, state));
  }

  private static boolean isLorry(int lorry) {
    return lorry >= 0 && lorry < LORRIES;
  }

  private static boolean isSlot(int slot) {
    return slot >= 0 && slot < SLOTS;
  }

  private static boolean isSize(int size) {
    return size >= 1 && size <= MOST_SIZE;
  }

  private static int greatestOf(int size, int other, int third) {
    return Math.max(size, Math.max(other, third));
  }

  private static int leastOf(int size, int other, int third) {
    return Math.min(size, Math.min(other, third));
  }

  private static int middleOf(int size, int other, int third) {
    return size + other + third - greatestOf(size, other, third) - leastOf(size, other, third);
  }

  private static void copyRow(int[] from, int[] to) {
    if (from != null && to != null && from.length == to.length) {
      System.arraycopy(from, 0, to, 0, from.length);
    }
  }

  /** All that undo and the slots bring back, in one row of numbers, so that one copy of the row keeps it. */
  private static final class State {
    private final int[] cells = new int[CELLS];

    State() {
      setCell(SAW, 2);
      setCell(PRICE, 12);
      setCell(FROST, -3);
      setCell(OVER, 5);
      for (int lorry = 0; lorry < LORRIES; lorry++) {
        setLorryCell(lorry, FRONT, 4000);
        setLorryCell(lorry, REAR, 8000);
        setLorryCell(lorry, LOAD, 10000);
      }
    }

    int cell(int at) {
      return at >= 0 && at < cells.length ? cells[at] : 0;
    }

    void setCell(int at, int value) {
      if (at >= 0 && at < cells.length) {
        cells[at] = value;
      }
    }

    int blockCell(int block, int what) {
      int at = FIRST_BLOCK + block * BLOCK_CELLS + what;
      return at >= 0 && at < cells.length ? cells[at] : 0;
    }

    void setBlockCell(int block, int what, int value) {
      setCell(FIRST_BLOCK + block * BLOCK_CELLS + what, value);
    }

    int orderCell(int order, int what) {
      return cell(FIRST_ORDER + order * ORDER_CELLS + what);
    }

    void setOrderCell(int order, int what, int value) {
      setCell(FIRST_ORDER + order * ORDER_CELLS + what, value);
    }

    int lorryCell(int lorry, int what) {
      return cell(FIRST_LORRY + lorry * LORRY_CELLS + what);
    }

    void setLorryCell(int lorry, int what, int value) {
      setCell(FIRST_LORRY + lorry * LORRY_CELLS + what, value);
    }

    boolean hasBlock(int block) {
      return block >= 0 && block < cell(BLOCKS);
    }

    boolean hasOrder(int order) {
      return order >= 0 && order < cell(ORDERS);
    }

    /** The set of the blocks of which a number has a value. */
    int blocksWith(int what, int value) {
      int blocks = cell(BLOCKS);
      int set = 0;
      for (int block = 0; block < blocks; block++) {
        if (blockCell(block, what) == value) {
          set |= 1 << block;
        }
      }
      return set;
    }

    void copyTo(int[] row) {
      copyRow(cells, row);
    }

    void copyFrom(int[] row) {
      copyRow(row, cells);
    }
  }

  /** What follows from a state; nothing here changes it. */
  private static final class Facts {
    private final State state;

    Facts(State state) {
      this.state = state;
    }

    int weightOf(int set) {
      int blocks = state.cell(BLOCKS);
      int weight = 0;
      for (int block = 0; block < blocks; block++) {
        if ((set >> block & 1) == 1) {
          weight += state.blockCell(block, WEIGHT);
        }
      }
      return weight;
    }

    int uncutBlocks() {
      int all = (1 << state.cell(BLOCKS)) - 1;
      return all & ~state.blocksWith(WHERE, CUT);
    }

    int uncutWeight() {
      return weightOf(uncutBlocks());
    }

    int quarriedWeight() {
      return weightOf(state.blocksWith(ORIGIN, NONE));
    }

    // Stone is never lost but by cuts, and what was cut off stands among the blocks: the rest is the loss.
    int lostWeight() {
      return quarriedWeight() - uncutWeight();
    }

    int allInvoices() {
      int orders = state.cell(ORDERS);
      int coins = 0;
      for (int order = 0; order < orders; order++) {
        if (state.orderCell(order, HOW) == DONE) {
          coins += state.orderCell(order, INVOICE);
        }
      }
      return coins;
    }

    boolean roofHasRoom() {
      return Integer.bitCount(state.blocksWith(WHERE, ROOF)) < ROOF_ROOM;
    }

    /** Whether a block is in the yard or under the roof. */
    boolean isAtHand(int block) {
      int where = state.blockCell(block, WHERE);
      return where == YARD || where == ROOF;
    }

    boolean mayBeSawn(int block) {
      return state.cell(FROST_NOW) == 0 && isAtHand(block) && state.blockCell(block, OWNER) == NONE;
    }

    /** The blocks in the yard that are wet, whole or not. */
    int blocksForFrost() {
      return state.blocksWith(WHERE, YARD) & ~state.blocksWith(WET, 0);
    }

    // ---- orders

    private boolean isWithinOver(int surplus) {
      return surplus >= 0 && surplus <= state.cell(OVER);
    }

    /** By how much three sizes are more than those of an order, together; NONE if they do not fit it. */
    int surplus(int order, int size, int other, int third) {
      int greatest = greatestOf(size, other, third) - state.orderCell(order, 0);
      int middle = middleOf(size, other, third) - state.orderCell(order, 1);
      int least = leastOf(size, other, third) - state.orderCell(order, 2);
      boolean fit = isWithinOver(greatest) && isWithinOver(middle) && isWithinOver(least);
      return fit ? greatest + middle + least : NONE;
    }

    /** By how much a block is more than an order to which it could be given; NONE if it could not. */
    int surplusToGive(int order, int block) {
      int where = state.blockCell(block, WHERE);
      if (state.orderCell(order, HOW) != OPEN || where == DELIVERED || where == CUT) {
        return NONE;
      }
      if (state.blockCell(block, OWNER) != NONE || state.blockCell(block, CRACKED) != 0) {
        return NONE;
      }
      return surplus(order, state.blockCell(block, 0), state.blockCell(block, 1), state.blockCell(block, 2));
    }

    int blocksToGive(int order) {
      int blocks = state.cell(BLOCKS);
      int set = 0;
      for (int block = 0; block < blocks; block++) {
        if (surplusToGive(order, block) != NONE) {
          set |= 1 << block;
        }
      }
      return set;
    }

    int nearestBlock(int order) {
      int blocks = state.cell(BLOCKS);
      int nearest = NONE;
      int least = NONE;
      for (int block = 0; block < blocks; block++) {
        int surplus = surplusToGive(order, block);
        if (surplus != NONE && (nearest == NONE || surplus < least)) {
          nearest = block;
          least = surplus;
        }
      }
      return nearest;
    }

    /** The least length, across a size, of a first piece of a block that fits an order; NONE if there is none. */
    int fittingLength(int order, int block, int across) {
      if (state.blockCell(block, CRACKED) != 0) {
        return NONE;
      }
      int most = state.blockCell(block, across) - state.cell(SAW) - 1;
      int size = state.blockCell(block, 0);
      int other = state.blockCell(block, 1);
      int third = state.blockCell(block, 2);
      for (int length = 1; length <= most; length++) {
        int surplus = surplus(order, across == 0 ? length : size, across == 1 ? length : other, across == 2 ? length : third);
        if (surplus != NONE) {
          return length;
        }
      }
      return NONE;
    }

    // ---- lorries

    int blocksOn(int lorry) {
      int set = 0;
      for (int place = 0; place < PLACES; place++) {
        set |= state.blocksWith(SPOT, PLACES * lorry + place);
      }
      return set;
    }

    boolean isFree(int lorry, int place) {
      return state.blocksWith(SPOT, PLACES * lorry + place) == 0;
    }

    int loadOf(int lorry) {
      return weightOf(blocksOn(lorry));
    }

    /** The weight on a place of a lorry, if one were put onto another place too. A free place has 0, which adds nothing. */
    private float weightAt(int lorry, int place, int morePlace, int more) {
      int blocks = state.cell(BLOCKS);
      int weight = place == morePlace ? more : 0;
      for (int block = 0; block < blocks; block++) {
        if (state.blockCell(block, SPOT) == PLACES * lorry + place) {
          weight += state.blockCell(block, WEIGHT);
        }
      }
      return (float) weight;
    }

    /** What the front axle of a lorry would have with a weight more on a place; with no place more, what it has. */
    float front(int lorry, int morePlace, int more) {
      float sum = 0.0f;
      for (int place = 0; place < PLACES; place++) {
        sum += weightAt(lorry, place, morePlace, more) * (float) (4 - place) / 4.0f;
      }
      return sum;
    }

    /** What the rear axle of a lorry would have, likewise. */
    float rear(int lorry, int morePlace, int more) {
      float sum = 0.0f;
      for (int place = 0; place < PLACES; place++) {
        sum += weightAt(lorry, place, morePlace, more) * (float) place / 4.0f;
      }
      return sum;
    }

    int reasonToStay(int lorry) {
      int blocks = blocksOn(lorry);
      if (blocks == 0) {
        return 1;
      }
      if ((blocks & state.blocksWith(CRACKED, 1)) != 0) {
        return 2;
      }
      if (weightOf(blocks) > state.lorryCell(lorry, LOAD)) {
        return 3;
      }
      if (front(lorry, NONE, 0) > (float) state.lorryCell(lorry, FRONT)) {
        return 4;
      }
      return rear(lorry, NONE, 0) > (float) state.lorryCell(lorry, REAR) ? 5 : 0;
    }

    /** The greater share of what the axles would have of their limits. */
    private float greaterShare(int lorry, int morePlace, int more) {
      float front = shareOf(front(lorry, morePlace, more), state.lorryCell(lorry, FRONT));
      float rear = shareOf(rear(lorry, morePlace, more), state.lorryCell(lorry, REAR));
      return front >= rear ? front : rear;
    }

    private static float shareOf(float weight, int limit) {
      return limit > 0 ? weight / (float) limit : 0.0f;
    }

    int easiestPlace(int block, int lorry) {
      int weight = state.blockCell(block, WEIGHT);
      int easiest = NONE;
      float least = 0.0f;
      for (int place = 0; place < PLACES; place++) {
        if (isFree(lorry, place)) {
          float share = greaterShare(lorry, place, weight);
          if (easiest == NONE || share < least) {
            easiest = place;
            least = share;
          }
        }
      }
      return easiest;
    }
  }

  /** The changes: each returns its answer, or an error and has changed nothing then. None records anything. */
  private static final class Works {
    private final State state;
    private final Facts facts;

    Works(State state, Facts facts) {
      this.state = state;
      this.facts = facts;
    }

    int changeSetting(int setting, int value) {
      if (setting < 0 || setting >= LEAST_SETTING.length || setting >= MOST_SETTING.length) {
        return BAD_VALUE;
      }
      if (value < LEAST_SETTING[setting] || value > MOST_SETTING[setting]) {
        return BAD_VALUE;
      }
      int before = state.cell(setting);
      state.setCell(setting, value);
      return before + 100;
    }

    // ---- blocks

    int quarryBlock(int size, int other, int third, int density) {
      if (!isSize(size) || !isSize(other) || !isSize(third) || density < 20 || density > 30) {
        return BAD_VALUE;
      }
      return state.cell(BLOCKS) >= MOST_BLOCKS ? TOO_MANY : addBlock(size, other, third, density);
    }

    private int addBlock(int size, int other, int third, int density) {
      int block = state.cell(BLOCKS);
      state.setCell(BLOCKS, block + 1);
      state.setBlockCell(block, 0, size);
      state.setBlockCell(block, 1, other);
      state.setBlockCell(block, 2, third);
      state.setBlockCell(block, DENSITY, density);
      state.setBlockCell(block, WEIGHT, size * other * third * density / 10000);
      state.setBlockCell(block, WHERE, YARD);
      state.setBlockCell(block, WET, WET_NIGHTS);
      state.setBlockCell(block, CRACKED, 0);
      state.setBlockCell(block, OWNER, NONE);
      state.setBlockCell(block, SPOT, NONE);
      state.setBlockCell(block, ORIGIN, NONE);
      return block;
    }

    int cutBlock(int block, int across, int at) {
      if (!state.hasBlock(block)) {
        return NO_SUCH;
      }
      if (across < 0 || across >= SIZES || !isSize(at)) {
        return BAD_VALUE;
      }
      int rest = state.blockCell(block, across) - at - state.cell(SAW);
      if (!facts.mayBeSawn(block) || rest < 1) {
        return NOT_POSSIBLE;
      }
      if (state.cell(BLOCKS) + 2 > MOST_BLOCKS) {
        return TOO_MANY;
      }
      boolean roofed = state.blockCell(block, WHERE) == ROOF;
      // First of all the block itself makes room under the roof.
      state.setBlockCell(block, WHERE, CUT);
      int first = addPiece(block, across, at, roofed);
      addPiece(block, across, rest, roofed);
      return first;
    }

    private int addPiece(int block, int across, int length, boolean roofed) {
      int size = across == 0 ? length : state.blockCell(block, 0);
      int other = across == 1 ? length : state.blockCell(block, 1);
      int third = across == 2 ? length : state.blockCell(block, 2);
      int piece = addBlock(size, other, third, state.blockCell(block, DENSITY));
      if (roofed && facts.roofHasRoom()) {
        state.setBlockCell(piece, WHERE, ROOF);
      }
      state.setBlockCell(piece, WET, state.blockCell(block, WET));
      state.setBlockCell(piece, CRACKED, state.blockCell(block, CRACKED));
      state.setBlockCell(piece, ORIGIN, block);
      return piece;
    }

    int moveBlock(int block) {
      if (!state.hasBlock(block)) {
        return NO_SUCH;
      }
      if (!facts.isAtHand(block)) {
        return NOT_POSSIBLE;
      }
      if (state.blockCell(block, WHERE) == YARD && !facts.roofHasRoom()) {
        return TOO_MANY;
      }
      int where = state.blockCell(block, WHERE) == YARD ? ROOF : YARD;
      state.setBlockCell(block, WHERE, where);
      return where;
    }

    // ---- orders

    int takeOrder(int size, int other, int third) {
      if (!isSize(size) || !isSize(other) || !isSize(third)) {
        return BAD_VALUE;
      }
      int order = state.cell(ORDERS);
      if (order >= MOST_ORDERS) {
        return TOO_MANY;
      }
      state.setCell(ORDERS, order + 1);
      state.setOrderCell(order, 0, greatestOf(size, other, third));
      state.setOrderCell(order, 1, middleOf(size, other, third));
      state.setOrderCell(order, 2, leastOf(size, other, third));
      state.setOrderCell(order, HOW, OPEN);
      state.setOrderCell(order, STONE, NONE);
      state.setOrderCell(order, INVOICE, NONE);
      return order;
    }

    int giveBlock(int order, int block) {
      if (!state.hasOrder(order) || !state.hasBlock(block)) {
        return NO_SUCH;
      }
      int surplus = facts.surplusToGive(order, block);
      if (surplus == NONE) {
        return NOT_POSSIBLE;
      }
      state.setOrderCell(order, HOW, GIVEN);
      state.setOrderCell(order, STONE, block);
      state.setBlockCell(block, OWNER, order);
      return surplus;
    }

    int takeBlockAway(int order) {
      if (!state.hasOrder(order)) {
        return NO_SUCH;
      }
      if (state.orderCell(order, HOW) != GIVEN) {
        return NOT_POSSIBLE;
      }
      int block = state.orderCell(order, STONE);
      state.setOrderCell(order, HOW, OPEN);
      state.setOrderCell(order, STONE, NONE);
      state.setBlockCell(block, OWNER, NONE);
      return block;
    }

    // ---- lorries

    private static boolean isLimit(int limit) {
      return limit >= 100 && limit <= 30000;
    }

    int changeLimits(int lorry, int front, int rear, int load) {
      if (!isLorry(lorry)) {
        return NO_SUCH;
      }
      if (!isLimit(front) || !isLimit(rear) || !isLimit(load)) {
        return BAD_VALUE;
      }
      state.setLorryCell(lorry, FRONT, front);
      state.setLorryCell(lorry, REAR, rear);
      state.setLorryCell(lorry, LOAD, load);
      return 1;
    }

    int loadBlock(int block, int lorry, int place) {
      if (!state.hasBlock(block) || !isLorry(lorry) || place < 0 || place >= PLACES) {
        return NO_SUCH;
      }
      if (!facts.isAtHand(block) || !facts.isFree(lorry, place)) {
        return NOT_POSSIBLE;
      }
      state.setBlockCell(block, WHERE, ON_LORRY);
      state.setBlockCell(block, SPOT, PLACES * lorry + place);
      return facts.loadOf(lorry);
    }

    int unloadBlock(int block) {
      if (!state.hasBlock(block)) {
        return NO_SUCH;
      }
      if (state.blockCell(block, WHERE) != ON_LORRY) {
        return NOT_POSSIBLE;
      }
      int lorry = state.blockCell(block, SPOT) / PLACES;
      state.setBlockCell(block, WHERE, YARD);
      state.setBlockCell(block, SPOT, NONE);
      return facts.loadOf(lorry);
    }

    int sendLorry(int lorry) {
      if (!isLorry(lorry)) {
        return NO_SUCH;
      }
      if (facts.reasonToStay(lorry) != 0) {
        return NOT_POSSIBLE;
      }
      int blocks = facts.blocksOn(lorry);
      int coins = 0;
      for (int block = 0; block < MOST_BLOCKS; block++) {
        if ((blocks >> block & 1) == 1) {
          coins += deliver(block);
        }
      }
      state.setLorryCell(lorry, TRIPS, state.lorryCell(lorry, TRIPS) + 1);
      return coins;
    }

    /** Delivers a block, and its order if it belongs to one; returns the invoice for it. */
    private int deliver(int block) {
      state.setBlockCell(block, WHERE, DELIVERED);
      state.setBlockCell(block, SPOT, NONE);
      int order = state.blockCell(block, OWNER);
      if (order == NONE) {
        return 0;
      }
      int invoice = state.cell(PRICE) * ((state.blockCell(block, WEIGHT) + 99) / 100);
      state.setOrderCell(order, HOW, DONE);
      state.setOrderCell(order, INVOICE, invoice);
      return invoice;
    }

    // ---- nights

    int passNight(int degrees) {
      if (degrees < -40 || degrees > 40) {
        return BAD_VALUE;
      }
      int nights = state.cell(NIGHTS);
      if (nights >= MOST_NIGHTS) {
        return NOT_POSSIBLE;
      }
      boolean frost = degrees <= state.cell(FROST);
      int cracked = frost ? crackBlocks() : 0;
      dryBlocks();
      state.setCell(FROST_NOW, frost ? 1 : 0);
      state.setCell(NIGHTS, nights + 1);
      return cracked;
    }

    /** Cracks what frost cracks; returns how many of these blocks were whole. */
    private int crackBlocks() {
      int blocks = facts.blocksForFrost() & state.blocksWith(CRACKED, 0);
      for (int block = 0; block < MOST_BLOCKS; block++) {
        if ((blocks >> block & 1) == 1) {
          state.setBlockCell(block, CRACKED, 1);
        }
      }
      return Integer.bitCount(blocks);
    }

    private void dryBlocks() {
      int blocks = state.cell(BLOCKS);
      for (int block = 0; block < blocks; block++) {
        int where = state.blockCell(block, WHERE);
        int wet = state.blockCell(block, WET);
        if (wet > 0 && where != DELIVERED && where != CUT) {
          state.setBlockCell(block, WET, wet - 1);
        }
      }
    }
  }

  /** The states before the latest changes, in a ring with a row more: there the state before a call waits for its answer. */
  private static final class History {
    private final int[][] rows = new int[HISTORY + 1][CELLS];
    private int next = 0;
    private int size = 0;

    int size() {
      return size;
    }

    private int[] nextRow() {
      return next >= 0 && next < rows.length ? rows[next] : null;
    }

    void note(State before) {
      before.copyTo(nextRow());
    }

    /** Keeps what was noted last, unless the answer is an error; returns the answer. */
    int settle(int answer) {
      if (answer >= 0) {
        next = next < HISTORY ? next + 1 : 0;
        size = Math.min(size + 1, HISTORY);
      }
      return answer;
    }

    int goBack(State state) {
      if (size == 0) {
        return NOT_POSSIBLE;
      }
      next = next > 0 ? next - 1 : HISTORY;
      size--;
      state.copyFrom(nextRow());
      return size;
    }
  }

  /** The saved states. */
  private static final class Slots {
    private final int[][] rows = new int[SLOTS][CELLS];
    private final boolean[] filled = new boolean[SLOTS];

    int keep(int slot, State state) {
      if (slot < 0 || slot >= rows.length || slot >= filled.length) {
        return BAD_VALUE;
      }
      state.copyTo(rows[slot]);
      filled[slot] = true;
      return state.cell(BLOCKS);
    }

    int bring(int slot, State state) {
      if (slot < 0 || slot >= rows.length || slot >= filled.length) {
        return BAD_VALUE;
      }
      if (!filled[slot]) {
        return NOT_POSSIBLE;
      }
      state.copyFrom(rows[slot]);
      return state.cell(BLOCKS);
    }
  }

  /** The text, and the reading of it: order by order, from left to right. */
  private static final class Pad {
    private static final int CODES = 8, NUMBERS = 4;

    private final char[] signs = new char[PAD];
    private int length = 0;

    private int at = 0;
    private int kind = 0;
    private final int[] numbers = new int[NUMBERS];
    private int found = 0;
    private boolean negative = false;

    int length() {
      return length;
    }

    int clear() {
      int before = length;
      length = 0;
      return before;
    }

    private static int code(long characters, int fromLast) {
      return (int) (characters >>> (8 * fromLast) & 255L);
    }

    int append(long characters) {
      int more = 0;
      while (more < CODES && code(characters, more) != 0) {
        int code = code(characters, more);
        if (code < 33 || code > 126) {
          return BAD_VALUE;
        }
        more++;
      }
      // A shift by all 64 bits would shift nothing away.
      if (more == 0 || more < CODES && characters >>> (8 * more) != 0) {
        return BAD_VALUE;
      }
      if (length + more > signs.length) {
        return TOO_MANY;
      }
      for (int left = more - 1; left >= 0 && length < signs.length; left--) {
        signs[length] = (char) code(characters, left);
        length++;
      }
      return length;
    }

    int findFault() {
      rewind();
      for (int orders = 0; orders < PAD && readOrder(); orders++) {
        if (at == length) {
          return NONE;
        }
      }
      return at;
    }

    void rewind() {
      at = 0;
    }

    /** The kind of the order that was read last. */
    int kind() {
      return kind;
    }

    int number(int index) {
      return index >= 0 && index < found && index < numbers.length ? numbers[index] : 0;
    }

    /** Reads the next order, and the sign between; if that fails, the reading stands at the fault. */
    boolean readOrder() {
      if (at > 0 && !take(';')) {
        return false;
      }
      kind = sign();
      String parts = partsOf(kind);
      if (parts.isEmpty()) {
        return false;
      }
      at++;
      found = 0;
      negative = false;
      for (int part = 0; part < parts.length(); part++) {
        if (!readPart(parts.charAt(part))) {
          return false;
        }
      }
      return true;
    }

    /** What follows the letter of an order: N is a number, D a digit, - a sign that may be missing, all else stands for itself. */
    private static String partsOf(int kind) {
      switch (kind) {
        case 'q': return "NxNxN*N";
        case 'c': return "N.D@N";
        case 'o': return "NxNxN";
        case 'g': return "N=N";
        case 'l': return "N.DD";
        case 'n': return "-N";
        case 'd': return "D";
        default: return "";
      }
    }

    private boolean readPart(int part) {
      switch (part) {
        case 'N': return readNumber(3);
        case 'D': return readNumber(1);
        case '-': negative = take('-'); return true;
        default: return take(part);
      }
    }

    /** The sign at which the reading stands; behind the text it is 0, which put() lets into no text. */
    private int sign() {
      return at >= 0 && at < length && at < signs.length ? signs[at] : 0;
    }

    private boolean take(int sign) {
      if (sign() != sign) {
        return false;
      }
      at++;
      return true;
    }

    /** Reads a number; a digit behind it that it can't have is left, and is the fault then, as no digit may stand there. */
    private boolean readNumber(int mostDigits) {
      int value = 0;
      int digits = 0;
      while (digits < mostDigits && sign() >= '0' && sign() <= '9' && (digits == 0 || value > 0)) {
        value = value * 10 + sign() - '0';
        digits++;
        at++;
      }
      if (digits == 0 || found < 0 || found >= numbers.length) {
        return false;
      }
      numbers[found] = negative ? -value : value;
      found++;
      return true;
    }
  }

  /** The bits of numbers that are 0 or more, and neither very small nor very great, by halving and doubling, which is exact. */
  private static final class Bits {
    private static final int MOST_STEPS = 100;

    static int ofFloat(float number) {
      if (number <= 0.0f) {
        return 0;
      }
      float rest = number;
      int exponent = 127;
      for (int step = 0; step < MOST_STEPS && rest >= 2.0f; step++) {
        rest = rest / 2.0f;
        exponent++;
      }
      for (int step = 0; step < MOST_STEPS && rest < 1.0f; step++) {
        rest = rest * 2.0f;
        exponent--;
      }
      return exponent << 23 | (int) ((rest - 1.0f) * 8388608.0f);
    }

    static long ofDouble(double number) {
      if (number <= 0.0) {
        return 0L;
      }
      double rest = number;
      long exponent = 1023L;
      for (int step = 0; step < MOST_STEPS && rest >= 2.0; step++) {
        rest = rest / 2.0;
        exponent++;
      }
      for (int step = 0; step < MOST_STEPS && rest < 1.0; step++) {
        rest = rest * 2.0;
        exponent--;
      }
      return exponent << 52 | (long) ((rest - 1.0) * 4503599627370496.0);
    }
  }
}
