import java.util.function.Consumer;

/** The edges that promises 3, 4, 5, 14 and 18 name: quarry(), cut(), shelter(), of() and meanWeight(). */
public final class BlocksEdgesTest {
  private static final Edges EDGES = new Edges("BlocksEdgesTest");

  // ---- quarry()

  private static void refusedQuarry(Consumer<QuarryOrders> way, int[] one, int error) {
    EDGES.refused(Edges.call("quarry", one), way, x -> x.quarry(one[0], one[1], one[2], one[3]), error);
  }

  /** "three sizes, told as 0, 1 and 2 (1 to 300 each), and a density (20 to 30)": the last values that are allowed. */
  private static void rangesOfABlock() {
    int[][] right = {{1, 50, 60, 25}, {300, 50, 60, 25}, {50, 1, 60, 25}, {50, 300, 60, 25}, {50, 60, 1, 25}, {50, 60, 300, 25},
        {50, 60, 70, 20}, {50, 60, 70, 30}, {1, 1, 1, 20}, {300, 300, 300, 30}};
    QuarryOrders x = new QuarryOrders();
    for (int block = 0; block < right.length; block++) {
      int[] one = right[block];
      EDGES.due(Edges.call("quarry", one), x.quarry(one[0], one[1], one[2], one[3]), block);
      for (int what = 0; what < 4; what++) {
        EDGES.due(Edges.call("of", block, what), x.of(block, what), one[what]);
      }
    }
  }

  /** "BAD_VALUE if a size or density is out of range": the first values beyond, on either side, each one alone. */
  private static void rangesOfABlockBeyond() {
    int[][] least = {{0, -1}, {0, -1}, {0, -1}, {19, 0, -20}};
    int[][] most = {{301, 302}, {301, 302}, {301, 302}, {31, 32}};
    for (int at = 0; at < 4; at++) {
      for (int[] beyond : new int[][] {least[at], most[at], Edges.FAR}) {
        for (int value : beyond) {
          int[] one = {50, 60, 70, 25};
          one[at] = value;
          refusedQuarry(Edges::used, one, Edges.BAD_VALUE);
        }
      }
      int[] first = {50, 60, 70, 25};
      first[at] = least[at][0];
      refusedQuarry(Edges::unused, first, Edges.BAD_VALUE);
    }
  }

  /** "There are up to 24 blocks so far, numbered in the order in which they came." */
  private static void mostBlocks() {
    QuarryOrders x = new QuarryOrders();
    for (int block = 0; block < 24; block++) {
      EDGES.due("no such block yet, of(" + block + ", 0)", x.of(block, 0), Edges.NO_SUCH);
      EDGES.due("quarry() number " + block, x.quarry(300 - block, 50, 50, 25), block);
      EDGES.due("of(" + block + ", 0)", x.of(block, 0), 300 - block);
      EDGES.due("count(1)", x.count(1), block + 1);
    }
    EDGES.due("the first one stays, of(0, 0)", x.of(0, 0), 300);
    EDGES.due("all are wet in the yard, ifFrost()", x.ifFrost(), (1 << 24) - 1);
  }

  /** "TOO_MANY if there have been 24 blocks", delivered and cut ones too; and BAD_VALUE ahead of it. */
  private static void noRoomForBlocks() {
    int[] right = {1, 300, 1, 20};
    refusedQuarry(Edges::allBlocks, right, Edges.TOO_MANY);
    refusedQuarry(BlocksEdgesTest::allBlocksCutAndDelivered, right, Edges.TOO_MANY);
    int[][] wrong = {{0, 50, 50, 25}, {50, 301, 50, 25}, {50, 50, 0, 25}, {50, 50, 50, 31}};
    for (int[] one : wrong) {
      refusedQuarry(Edges::allBlocks, one, Edges.BAD_VALUE);
    }
  }

  private static void allBlocksCutAndDelivered(QuarryOrders x) {
    Edges.blocks(x, 22);
    x.cut(0, 0, 10);
    x.load(1, 0, 2);
    x.leave(0);
  }

  /** "Its weight is the product of its three sizes and its density, divided by 10000"; "Divisions are rounded down". */
  private static void weights() {
    int[][] blocks = {{1, 1, 1, 20, 0}, {28, 17, 1, 21, 0}, {10, 37, 1, 27, 0}, {10, 10, 5, 20, 1}, {13, 53, 1, 29, 1},
        {51, 14, 1, 28, 1}, {1, 100, 10, 20, 2}, {300, 300, 300, 20, 54000}, {300, 300, 300, 30, 81000}, {299, 300, 300, 30, 80730},
        {299, 299, 299, 29, 77519}};
    for (int[] one : blocks) {
      QuarryOrders x = new QuarryOrders();
      x.quarry(one[0], one[1], one[2], one[3]);
      EDGES.due(Edges.call("the weight of ", one), x.of(0, 4), one[4]);
      EDGES.due(Edges.call("the weight in all of ", one), x.count(6), one[4]);
    }
  }

  // ---- cut()

  private static void refusedCut(Consumer<QuarryOrders> way, int block, int across, int at, int error) {
    EDGES.refused(Edges.call("cut", block, across, at), way, x -> x.cut(block, across, at), error);
  }

  /** "NO_SUCH if there is no such block"; it comes ahead of all else. */
  private static void cutOfNoBlock() {
    int[] none = {-1, 7, 24};
    for (int block : none) {
      refusedCut(Edges::used, block, 0, 10, Edges.NO_SUCH);
      refusedCut(Edges::used, block, 3, 0, Edges.NO_SUCH);
      refusedCut(BlocksEdgesTest::usedInFrost, block, 0, 10, Edges.NO_SUCH);
    }
    for (int block : Edges.FAR) {
      refusedCut(Edges::used, block, 0, 10, Edges.NO_SUCH);
    }
    refusedCut(Edges::unused, 0, 0, 1, Edges.NO_SUCH);
    refusedCut(Edges::allBlocks, 24, 0, 10, Edges.NO_SUCH);
    EDGES.due("the last one there is, cut(6, 0, 10)", Edges.made(Edges::used).cut(6, 0, 10), 7);
    EDGES.due("the first one there is, cut(0, 0, 10)", Edges.made(Edges::used).cut(0, 0, 10), 7);
  }

  private static void usedInFrost(QuarryOrders x) {
    Edges.used(x);
    x.night(-3);
  }

  /** "across: 0 to 2", "at: 1 to 300", "BAD_VALUE if across or at is out of range". */
  private static void cutOutOfRange() {
    int[] noSizes = {-1, 3};
    int[] noLengths = {0, -1, 301, 302};
    for (int across : noSizes) {
      refusedCut(Edges::used, 6, across, 10, Edges.BAD_VALUE);
      refusedCut(Edges::used, 5, across, 10, Edges.BAD_VALUE);
      refusedCut(BlocksEdgesTest::usedInFrost, 6, across, 10, Edges.BAD_VALUE);
      refusedCut(Edges::allBlocks, 6, across, 10, Edges.BAD_VALUE);
    }
    for (int at : noLengths) {
      refusedCut(Edges::used, 6, 0, at, Edges.BAD_VALUE);
      refusedCut(Edges::used, 2, 0, at, Edges.BAD_VALUE);
      refusedCut(BlocksEdgesTest::usedInFrost, 6, 2, at, Edges.BAD_VALUE);
      refusedCut(Edges::allBlocks, 6, 1, at, Edges.BAD_VALUE);
    }
    for (int far : Edges.FAR) {
      refusedCut(Edges::used, 6, far, 10, Edges.BAD_VALUE);
      refusedCut(Edges::used, 6, 0, far, Edges.BAD_VALUE);
    }
  }

  /** "the first one has that length there, the second one what is left of it and of SAW"; "Both lengths are 1 at least." */
  private static void cutLengths() {
    int[] saws = {0, 1, 2, 9};
    for (int saw : saws) {
      for (int across = 0; across < 3; across++) {
        dueCut(saw, across, 40, 1);
        dueCut(saw, across, 40, 39 - saw);
        dueCut(saw, across, 300, 299 - saw);
        dueCut(saw, across, saw + 2, 1);
        int size = across;
        Consumer<QuarryOrders> way = x -> blockToCut(x, saw, size, 40);
        int[] tooLong = {40 - saw, 41 - saw, 40, 41, 300};
        for (int at : tooLong) {
          refusedCut(way, 0, across, at, Edges.NOT_POSSIBLE);
        }
        Consumer<QuarryOrders> tooShort = x -> blockToCut(x, saw, size, saw + 1);
        refusedCut(tooShort, 0, across, 1, Edges.NOT_POSSIBLE);
        Consumer<QuarryOrders> longest = x -> blockToCut(x, saw, size, 300);
        refusedCut(longest, 0, across, 300 - saw, Edges.NOT_POSSIBLE);
        refusedCut(longest, 0, across, 300, Edges.NOT_POSSIBLE);
        refusedCut(longest, 0, across, 301, Edges.BAD_VALUE);
      }
    }
  }

  private static void blockToCut(QuarryOrders x, int saw, int across, int length) {
    x.set(Edges.SAW, saw);
    x.quarry(across == 0 ? length : 70, across == 1 ? length : 80, across == 2 ? length : 90, 25);
  }

  private static void dueCut(int saw, int across, int length, int at) {
    QuarryOrders x = new QuarryOrders();
    blockToCut(x, saw, across, length);
    String how = "SAW " + saw + ", a length of " + length + ", " + Edges.call("cut", 0, across, at);
    EDGES.due(how, x.cut(0, across, at), 1);
    for (int size = 0; size < 3; size++) {
      EDGES.due(how + ", of(0, " + size + ")", x.of(0, size), size == across ? length : 70 + 10 * size);
      EDGES.due(how + ", of(1, " + size + ")", x.of(1, size), size == across ? at : 70 + 10 * size);
      EDGES.due(how + ", of(2, " + size + ")", x.of(2, size), size == across ? length - at - saw : 70 + 10 * size);
    }
  }

  /** "NOT_POSSIBLE if it is frost, the block is neither in the yard nor under the roof, belongs to an order". */
  private static void cutNotPossible() {
    int[] elsewhere = {1, 2, 5};
    for (int block : elsewhere) {
      refusedCut(Edges::used, block, 0, 10, Edges.NOT_POSSIBLE);
    }
    for (int block = 0; block < 7; block++) {
      refusedCut(BlocksEdgesTest::usedInFrost, block, 0, 10, Edges.NOT_POSSIBLE);
    }
    refusedCut(BlocksEdgesTest::usedAndGiven, 6, 0, 10, Edges.NOT_POSSIBLE);
    refusedCut(BlocksEdgesTest::usedAndGivenUnderRoof, 0, 0, 10, Edges.NOT_POSSIBLE);
    QuarryOrders x = Edges.made(BlocksEdgesTest::usedAndGiven);
    x.takeBack(2);
    EDGES.due("the order has it no more, cut(6, 0, 10)", x.cut(6, 0, 10), 7);
    QuarryOrders y = Edges.made(BlocksEdgesTest::usedInFrost);
    y.night(-2);
    EDGES.due("behind a night that is no frost, cut(6, 0, 10)", y.cut(6, 0, 10), 7);
    EDGES.due("a cracked one, cut(3, 0, 10)", y.cut(3, 0, 10), 9);
    QuarryOrders z = Edges.made(Edges::used);
    z.takeBack(0);
    z.unload(5);
    EDGES.due("off the lorry, cut(5, 0, 10)", z.cut(5, 0, 10), 7);
    refusedCut(BlocksEdgesTest::usedOnLorry, 6, 0, 10, Edges.NOT_POSSIBLE);
  }

  private static void usedAndGiven(QuarryOrders x) {
    Edges.used(x);
    x.give(2, 6);
  }

  private static void usedAndGivenUnderRoof(QuarryOrders x) {
    Edges.used(x);
    x.give(2, 0);
  }

  private static void usedOnLorry(QuarryOrders x) {
    Edges.used(x);
    x.load(6, 1, 0);
  }

  /** "TOO_MANY if there would have been more than 24 blocks"; all other errors come ahead of it. */
  private static void noRoomForPieces() {
    QuarryOrders x = Edges.made(y -> Edges.blocks(y, 22));
    EDGES.due("22 blocks, cut(21, 2, 10)", x.cut(21, 2, 10), 22);
    EDGES.due("count(1)", x.count(1), 24);
    EDGES.due("of(22, 2)", x.of(22, 2), 10);
    EDGES.due("of(23, 2)", x.of(23, 2), 38);
    EDGES.due("of(23, 10)", x.of(23, 10), 21);
    EDGES.due("of(24, 0)", x.of(24, 0), Edges.NO_SUCH);
    int[] full = {23, 24};
    for (int blocks : full) {
      refusedCut(y -> Edges.blocks(y, blocks), 3, 2, 10, Edges.TOO_MANY);
      refusedCut(y -> Edges.blocks(y, blocks), 3, 2, 47, Edges.TOO_MANY);
      refusedCut(y -> Edges.blocks(y, blocks), 3, 2, 48, Edges.NOT_POSSIBLE);
      refusedCut(y -> frozen(y, blocks), 3, 2, 10, Edges.NOT_POSSIBLE);
      refusedCut(y -> loaded(y, blocks), 3, 2, 10, Edges.NOT_POSSIBLE);
      refusedCut(y -> given(y, blocks), 3, 2, 10, Edges.NOT_POSSIBLE);
    }
  }

  private static void frozen(QuarryOrders x, int blocks) {
    Edges.blocks(x, blocks);
    x.night(-3);
  }

  private static void loaded(QuarryOrders x, int blocks) {
    Edges.blocks(x, blocks);
    x.load(3, 0, 0);
  }

  private static void given(QuarryOrders x, int blocks) {
    Edges.blocks(x, blocks);
    x.order(50, 50, 50);
    x.give(0, 3);
  }

  /** "is there, if the roof has room for it then (the first one first), otherwise in the yard". */
  private static void piecesUnderRoof() {
    for (int others = 0; others < 4; others++) {
      QuarryOrders x = new QuarryOrders();
      Edges.blocks(x, others + 2);
      for (int block = 0; block <= others; block++) {
        x.shelter(block);
      }
      int first = x.cut(0, 1, 20);
      EDGES.due(others + " others there, the first one", x.of(first, 5), 1);
      EDGES.due(others + " others there, the second one", x.of(first + 1, 5), others == 3 ? 0 : 1);
      EDGES.due(others + " others there, the cut one", x.of(0, 5), 4);
      EDGES.due(others + " others there, roofed", Integer.bitCount(x.count(4)), Math.min(others + 2, 4));
      int ofYard = x.cut(others + 1, 1, 20);
      EDGES.due(others + " others there, of one in the yard, the first one", x.of(ofYard, 5), 0);
      EDGES.due(others + " others there, of one in the yard, the second one", x.of(ofYard + 1, 5), 0);
    }
  }

  /** "is made by a cut of a block that is wet: for as many nights as that yet"; "all else is as the block has it". */
  private static void piecesAsTheBlock() {
    for (int nights = 0; nights < 5; nights++) {
      QuarryOrders x = new QuarryOrders();
      x.quarry(50, 60, 70, 21);
      for (int night = 0; night < nights; night++) {
        x.night(night == 1 ? -3 : 5);
      }
      int cracked = nights > 1 ? 1 : 0;
      x.night(5);
      int wet = Math.max(0, 2 - nights);
      EDGES.due("behind " + nights + " nights, cut(0, 0, 10)", x.cut(0, 0, 10), 1);
      for (int block = 0; block < 3; block++) {
        EDGES.due("behind " + nights + " nights, of(" + block + ", 6)", x.of(block, 6), wet);
        EDGES.due("behind " + nights + " nights, of(" + block + ", 7)", x.of(block, 7), cracked);
        EDGES.due("behind " + nights + " nights, of(" + block + ", 3)", x.of(block, 3), 21);
      }
      EDGES.due("cracked ones, but the cut one, count(5)", x.count(5), cracked == 1 ? 0b110 : 0);
      x.night(5);
      EDGES.due("a night more, of(1, 6)", x.of(1, 6), Math.max(0, wet - 1));
      EDGES.due("a night more, of(2, 6)", x.of(2, 6), Math.max(0, wet - 1));
      EDGES.due("a night more, the cut one, of(0, 6)", x.of(0, 6), wet);
    }
  }

  /** What is lost: "a block's less those of the two made of it, so far". */
  private static void loss() {
    QuarryOrders x = new QuarryOrders();
    x.set(Edges.SAW, 0);
    x.quarry(10, 10, 10, 20);
    x.cut(0, 0, 5);
    EDGES.due("even halves, count(8)", x.count(8), 0);
    x.cut(1, 0, 1);
    EDGES.due("1 is 0 and 0: all of it is lost, count(8)", x.count(8), 1);
    EDGES.due("count(7)", x.count(7), 1);
    EDGES.due("count(6)", x.count(6), 2);
  }

  // ---- shelter()

  /** "The roof has room for 4 blocks"; "TOO_MANY if the roof has no room". */
  private static void room() {
    QuarryOrders x = new QuarryOrders();
    Edges.blocks(x, 6);
    for (int block = 0; block < 4; block++) {
      EDGES.due("with " + block + " there, shelter(" + block + ")", x.shelter(block), 1);
      EDGES.due("count(4)", x.count(4), (2 << block) - 1);
    }
    EDGES.due("with 4 there, shelter(4)", x.shelter(4), Edges.TOO_MANY);
    EDGES.due("out of a full roof, shelter(0)", x.shelter(0), 0);
    EDGES.due("with 3 there, shelter(4)", x.shelter(4), 1);
    EDGES.due("with 4 there, shelter(0)", x.shelter(0), Edges.TOO_MANY);
    x.load(4, 0, 2);
    EDGES.due("one loaded from there, shelter(0)", x.shelter(0), 1);
    EDGES.refused("full, shelter(4)", BlocksEdgesTest::fullRoof, y -> y.shelter(4), Edges.TOO_MANY);
  }

  private static void fullRoof(QuarryOrders x) {
    Edges.blocks(x, 8);
    for (int block = 0; block < 4; block++) {
      x.shelter(block);
    }
    x.load(5, 0, 2);
    x.leave(0);
    x.load(6, 0, 2);
    x.cut(7, 0, 10);
  }

  /** "NO_SUCH if there is no such block; NOT_POSSIBLE if it is in neither", ahead of TOO_MANY. */
  private static void shelterRefused() {
    int[] none = {-1, 10, 24};
    for (int block : none) {
      EDGES.refused("full, shelter(" + block + ")", BlocksEdgesTest::fullRoof, x -> x.shelter(block), Edges.NO_SUCH);
    }
    for (int block : Edges.FAR) {
      EDGES.refused("shelter(" + block + ")", Edges::used, x -> x.shelter(block), Edges.NO_SUCH);
    }
    EDGES.refused("new, shelter(0)", Edges::unused, x -> x.shelter(0), Edges.NO_SUCH);
    int[] elsewhere = {5, 6, 7};
    for (int block : elsewhere) {
      EDGES.refused("full, shelter(" + block + ")", BlocksEdgesTest::fullRoof, x -> x.shelter(block), Edges.NOT_POSSIBLE);
    }
    int[] usedElsewhere = {1, 2, 5};
    for (int block : usedElsewhere) {
      EDGES.refused("shelter(" + block + ")", Edges::used, x -> x.shelter(block), Edges.NOT_POSSIBLE);
    }
    EDGES.due("the last one, shelter(6)", Edges.made(Edges::used).shelter(6), 1);
    EDGES.due("the first one, shelter(0)", Edges.made(Edges::used).shelter(0), 0);
  }

  // ---- of() and meanWeight()

  /** "NO_SUCH if there is no such block; BAD_VALUE if what is out of range": 0 to 10 there are. */
  private static void ofRefused() {
    int[] none = {-1, 7, 24};
    for (int block : none) {
      EDGES.refused(Edges.call("of", block, 0), Edges::used, x -> x.of(block, 0), Edges.NO_SUCH);
      EDGES.refused(Edges.call("of", block, 11), Edges::used, x -> x.of(block, 11), Edges.NO_SUCH);
    }
    int[] noWhat = {-1, 11, 12};
    for (int what : noWhat) {
      for (int block = 0; block < 7; block++) {
        int of = block;
        EDGES.refused(Edges.call("of", block, what), Edges::used, x -> x.of(of, what), Edges.BAD_VALUE);
      }
    }
    for (int far : Edges.FAR) {
      EDGES.refused(Edges.call("of", far, 5), Edges::used, x -> x.of(far, 5), Edges.NO_SUCH);
      EDGES.refused(Edges.call("of", far, far), Edges::used, x -> x.of(far, far), Edges.NO_SUCH);
      EDGES.refused(Edges.call("of", 0, far), Edges::used, x -> x.of(0, far), Edges.BAD_VALUE);
    }
    EDGES.refused("new, of(0, 0)", Edges::unused, x -> x.of(0, 0), Edges.NO_SUCH);
  }

  /** "8 its order (NONE), 9 5 * its lorry and its place there (NONE), 10 the block of which it was cut (NONE)". */
  private static void noneOfABlock() {
    int none = Edges.NONE;
    // Where it is, wet, cracked, its order, its place, of which it was cut.
    int[][] due = {{1, 1, 0, none, none, none}, {3, 3, 0, 1, none, none}, {4, 3, 0, none, none, none}, {0, 1, 1, none, none, 2},
        {0, 1, 1, none, none, 2}, {2, 3, 0, 0, 1, none}, {0, 3, 0, none, none, none}};
    for (int block = 0; block < due.length; block++) {
      for (int what = 5; what <= 10; what++) {
        int number = block;
        int about = what;
        EDGES.idle(Edges.call("of", block, what), Edges::used, x -> x.of(number, about), due[block][what - 5]);
      }
    }
  }

  /** "5 * its lorry and its place there": 0 to 14. */
  private static void placeOfABlock() {
    QuarryOrders x = new QuarryOrders();
    x.quarry(50, 50, 50, 25);
    for (int lorry = 0; lorry < 3; lorry++) {
      for (int place = 0; place < 5; place++) {
        x.load(0, lorry, place);
        EDGES.due(Edges.call("load", 0, lorry, place) + ", of(0, 9)", x.of(0, 9), 5 * lorry + place);
        x.unload(0);
        EDGES.due("unloaded, of(0, 9)", x.of(0, 9), Edges.NONE);
      }
    }
  }

  /** "those of 0.0 without such blocks"; delivered blocks count, cut ones do not. */
  private static void meanWeight() {
    QuarryOrders x = new QuarryOrders();
    EDGES.idle("new, meanWeight()", Edges::unused, y -> y.meanWeight(), Double.doubleToLongBits(0.0));
    x.quarry(100, 100, 40, 25);
    EDGES.due("one, meanWeight()", x.meanWeight(), Double.doubleToLongBits(1000.0));
    x.cut(0, 2, 19);
    EDGES.due("two pieces, meanWeight()", x.meanWeight(), Double.doubleToLongBits(950.0 / 2.0));
    x.load(1, 0, 2);
    x.leave(0);
    EDGES.due("one of them delivered, meanWeight()", x.meanWeight(), Double.doubleToLongBits(950.0 / 2.0));
    x.undo();
    x.undo();
    x.undo();
    x.undo();
    EDGES.due("all undone, meanWeight()", x.meanWeight(), Double.doubleToLongBits(0.0));
    QuarryOrders heavy = new QuarryOrders();
    for (int block = 0; block < 24; block++) {
      heavy.quarry(300, 300, 300, 30);
    }
    EDGES.due("24 of the heaviest, meanWeight()", heavy.meanWeight(), Double.doubleToLongBits(81000.0));
    QuarryOrders light = new QuarryOrders();
    light.quarry(1, 1, 1, 20);
    EDGES.due("one of 0 kilograms, meanWeight()", light.meanWeight(), Double.doubleToLongBits(0.0));
    light.undo();
    light.quarry(10, 10, 5, 20);
    for (int block = 1; block < 24; block++) {
      light.quarry(1, 1, 1, 20);
    }
    EDGES.due("one kilogram in 24 blocks, meanWeight()", light.meanWeight(), Double.doubleToLongBits(1.0 / 24.0));
  }

  public static void main(String[] args) {
    rangesOfABlock();
    rangesOfABlockBeyond();
    mostBlocks();
    noRoomForBlocks();
    weights();
    cutOfNoBlock();
    cutOutOfRange();
    cutLengths();
    cutNotPossible();
    noRoomForPieces();
    piecesUnderRoof();
    piecesAsTheBlock();
    loss();
    room();
    shelterRefused();
    ofRefused();
    noneOfABlock();
    placeOfABlock();
    meanWeight();
    EDGES.end();
  }
}
