/** Each promise of the document by its number: ordinary inputs, the edges that the document names, wrong inputs. */
public final class PromiseTests {
  private static final int NONE = -1;
  private static final int WOODS = 0;
  private static final int AFLOAT = 1;
  private static final int JAM = 2;
  private static final int SHORE = 3;
  private static final int SUNK = 4;
  private static final int BOOM = 5;
  private static final int GAP = 6;
  private static final int POOL = 7;
  private static final int RAFT = 8;
  private static final int MILL = 9;
  private static final int GONE = 10;

  private static final String INDEX = "IndexOutOfBoundsException";
  private static final String ARGUMENT = "IllegalArgumentException";
  private static final String STATE = "IllegalStateException";

  private static int wrong = 0;
  private static String at = "";

  private interface Call {
    void make();
  }

  public static void main(String[] args) {
    promise1();
    promise2();
    promise3();
    promise4();
    promise5();
    promise6();
    promise7();
    promise8();
    promise9();
    promise10();
    promise11Water();
    promise11Jams();
    promise11Driving();
    promise11Boom();
    promise11Soaking();
    promise11Sinking();
    promise11Rafts();
    promise11Costs();
    promise11Wrong();
    promise12();
    promise13();
    promise14();
    promise15();
    promise16();
    promise17();
    promise18();
    promise19();
    promise20();
    promise21();
    promise22();
    promise23Places();
    promise23Whose();
    promise24();
    promise25();
    promise26();
    promise27();
    promise28();
    promise29();
    promise30();
    promise31();
    fullUse();
    System.out.println(wrong == 0 ? "all promises hold" : wrong + " answers are not as due");
    if (wrong != 0) {
      System.exit(1);
    }
  }

  // ---- helpers

  private static void due(String what, double got, double want) {
    if (got != want) {
      wrong++;
      System.out.println(at + ": " + what + " answered " + got + ", due is " + want);
    }
  }

  private static void dueLong(String what, long got, long want) {
    if (got != want) {
      wrong++;
      System.out.println(at + ": " + what + " answered " + got + ", due is " + want);
    }
  }

  /** The call throws just this, and nothing has changed then. */
  private static void refuses(BoomSorters x, String exception, String what, Call call) {
    long before = x.digest();
    String got = "nothing";
    try {
      call.make();
    } catch (RuntimeException e) {
      got = e.getClass().getSimpleName();
      // Thrown by the program itself, not by a list or the machine below it.
      if (!e.getStackTrace()[0].getClassName().startsWith("BoomSorters")) {
        got += " of " + e.getStackTrace()[0].getClassName();
      }
    }
    if (!got.equals(exception)) {
      wrong++;
      System.out.println(at + ": " + what + " threw " + got + ", due is " + exception);
    }
    dueLong(what + " refused: the digest", x.digest(), before);
  }

  private static int place(BoomSorters x, int log) {
    return x.ofLog(log, 0);
  }

  /** A river whose FLOW at the REACH 5 is 30 on each further DAY with a MELT of 40; NOW is 6. */
  private static BoomSorters flowing() {
    BoomSorters x = new BoomSorters();
    x.pass(40, 6);
    return x;
  }

  /** Fells a LOG at the REACH 5 with these STROKES and rolls it in; answers its number. */
  private static int rolled(BoomSorters x, int strokes, int kind, int length, int girth) {
    int log = x.fell(0, 5, kind, length, girth);
    x.hammer(log, strokes);
    x.roll(5);
    return log;
  }

  /** A flowing river with MARKS 1, 2, 4, 8, and these STROKES in its BOOM, all PINE of 5 times 2. */
  private static BoomSorters boomOf(int... strokes) {
    BoomSorters x = flowing();
    for (int k = 0; k < 4; k++) {
      x.mark(k, 1 << k);
    }
    for (int s : strokes) {
      rolled(x, s, 0, 5, 2);
    }
    due("the BOOM filled by pass(40, 1)", x.pass(40, 1), strokes.length);
    return x;
  }

  /** A JAM at the REACH 5: its KEY has the GIRTH, and the others come to it; all have these STROKES. */
  private static BoomSorters jamOf(int girth, int others, int strokes) {
    BoomSorters x = new BoomSorters();
    x.gate(5, 0);
    x.rocks(5, 9);
    x.mark(0, strokes);
    x.fell(0, 5, 0, 7, girth);
    for (int k = 0; k < others; k++) {
      x.fell(0, 5, 0, 3, 1);
    }
    x.roll(5);
    due("LOGS in the JAM", x.ofReach(5, 5), others + 1);
    return x;
  }

  // ---- the promises

  private static void promise1() {
    at = "promise 1";
    BoomSorters x = new BoomSorters();
    for (int what = 0; what <= 18; what++) {
      due("many(" + what + ")", x.many(what), what == 12 ? 20 : 0);
    }
    for (int owner = 0; owner < 4; owner++) {
      for (int what = 0; what <= 7; what++) {
        due("ofOwner(" + owner + ", " + what + ")", x.ofOwner(owner, what), what == 3 ? NONE : 0);
      }
    }
    for (int reach = 0; reach < 6; reach++) {
      for (int what = 0; what <= 9; what++) {
        due("ofReach(" + reach + ", " + what + ")", x.ofReach(reach, what), what == 1 ? 3 : what == 6 ? NONE : 0);
      }
    }
    due("row(NONE, 0)", x.row(NONE, 0), NONE);
    dueLong("digest", x.digest(), 7935787786979848831L);
    // Two objects have nothing in common.
    BoomSorters y = new BoomSorters();
    x.mark(0, 5);
    x.rocks(0, 5);
    x.fell(0, 0, 0, 3, 1);
    dueLong("the digest of another object", y.digest(), 7935787786979848831L);
  }

  private static void promise2() {
    at = "promise 2";
    BoomSorters x = new BoomSorters();
    for (int owner = 0; owner < 4; owner++) {
      due("the first MARK", x.mark(owner, 63 - owner), 0);
      due("the MARK", x.ofOwner(owner, 0), 63 - owner);
      due("the second MARK", x.mark(owner, owner), 63 - owner);
    }
    x.mark(1, 6);
    int log = x.fell(1, 0, 0, 3, 1);
    x.mark(1, 0);
    due("STROKES stay as they are", x.ofLog(log, 5), 6);
    due("WHOSE it is goes by the MARKS of now", x.ofLog(log, 7), NONE);
    refuses(x, INDEX, "mark(-1, 0)", () -> x.mark(-1, 0));
    refuses(x, INDEX, "mark(4, 0)", () -> x.mark(4, 0));
    refuses(x, INDEX, "mark(4, 64)", () -> x.mark(4, 64));
    refuses(x, ARGUMENT, "mark(0, 64)", () -> x.mark(0, 64));
    refuses(x, ARGUMENT, "mark(3, -1)", () -> x.mark(3, -1));
    refuses(x, INDEX, "mark(least)", () -> x.mark(Integer.MIN_VALUE, 1));
    refuses(x, ARGUMENT, "mark(0, greatest)", () -> x.mark(0, Integer.MAX_VALUE));
  }

  private static void promise3() {
    at = "promise 3";
    BoomSorters x = new BoomSorters();
    for (int reach = 0; reach < 6; reach++) {
      due("the first ROCKS", x.rocks(reach, 9 - reach), 0);
      due("ROCKS", x.ofReach(reach, 2), 9 - reach);
      due("the second ROCKS", x.rocks(reach, reach), 9 - reach);
    }
    refuses(x, INDEX, "rocks(-1, 0)", () -> x.rocks(-1, 0));
    refuses(x, INDEX, "rocks(6, 10)", () -> x.rocks(6, 10));
    refuses(x, ARGUMENT, "rocks(5, 10)", () -> x.rocks(5, 10));
    refuses(x, ARGUMENT, "rocks(0, -1)", () -> x.rocks(0, -1));
  }

  private static void promise4() {
    at = "promise 4";
    BoomSorters x = new BoomSorters();
    for (int reach = 0; reach < 6; reach++) {
      due("the first GATE", x.gate(reach, reach % 4), 3);
      due("GATE", x.ofReach(reach, 1), reach % 4);
      due("the second GATE", x.gate(reach, 3), reach % 4);
    }
    refuses(x, INDEX, "gate(-1, 0)", () -> x.gate(-1, 0));
    refuses(x, INDEX, "gate(6, 4)", () -> x.gate(6, 4));
    refuses(x, ARGUMENT, "gate(5, 4)", () -> x.gate(5, 4));
    refuses(x, ARGUMENT, "gate(0, -1)", () -> x.gate(0, -1));
  }

  private static void promise5() {
    at = "promise 5";
    BoomSorters x = new BoomSorters();
    x.mark(2, 37);
    due("fell", x.fell(2, 4, 1, 9, 8), 0);
    int[] want = {WOODS, 4, 1, 9, 8, 37, 0, 2, NONE};
    for (int what = 0; what <= 8; what++) {
      due("ofLog(0, " + what + ")", x.ofLog(0, what), want[what]);
    }
    due("fell of the smallest", x.fell(3, 0, 0, 3, 1), 1);
    due("fell of the greatest", x.fell(0, 5, 2, 9, 9), 2);
    due("STROKES of one without a MARK", x.ofLog(1, 5), 0);
    refuses(x, INDEX, "owner -1", () -> x.fell(-1, 0, 0, 3, 1));
    refuses(x, INDEX, "owner 4", () -> x.fell(4, 0, 3, 3, 1));
    refuses(x, INDEX, "reach -1", () -> x.fell(0, -1, 0, 3, 1));
    refuses(x, INDEX, "reach 6", () -> x.fell(0, 6, 0, 2, 1));
    refuses(x, ARGUMENT, "kind -1", () -> x.fell(0, 0, -1, 3, 1));
    refuses(x, ARGUMENT, "kind 3", () -> x.fell(0, 0, 3, 3, 1));
    refuses(x, ARGUMENT, "length 2", () -> x.fell(0, 0, 0, 2, 1));
    refuses(x, ARGUMENT, "length 10", () -> x.fell(0, 0, 0, 10, 1));
    refuses(x, ARGUMENT, "girth 0", () -> x.fell(0, 0, 0, 3, 0));
    refuses(x, ARGUMENT, "girth 10", () -> x.fell(0, 0, 0, 3, 10));
    for (int k = 3; k < 40; k++) {
      due("fell", x.fell(k % 4, k % 6, k % 3, 3 + k % 7, 1 + k % 9), k);
    }
    refuses(x, STATE, "the LOG 41", () -> x.fell(0, 0, 0, 3, 1));
    refuses(x, ARGUMENT, "the LOG 41 with a GIRTH of 10", () -> x.fell(0, 0, 0, 3, 10));
    refuses(x, INDEX, "the LOG 41 at the REACH 6", () -> x.fell(0, 6, 0, 3, 1));
  }

  private static void promise6() {
    at = "promise 6";
    BoomSorters x = new BoomSorters();
    x.mark(0, 3);
    int log = x.fell(0, 5, 0, 4, 1);
    due("hammer in the WOODS", x.hammer(log, 0), 3);
    due("hammer again", x.hammer(log, 63), 0);
    due("STROKES", x.ofLog(log, 5), 63);
    x.roll(5);
    refuses(x, STATE, "a LOG that is AFLOAT", () -> x.hammer(0, 1));
    refuses(x, ARGUMENT, "64 on a LOG that is AFLOAT", () -> x.hammer(0, 64));
    refuses(x, ARGUMENT, "-1", () -> x.hammer(0, -1));
    refuses(x, INDEX, "no such LOG", () -> x.hammer(1, 64));
    refuses(x, INDEX, "the LOG -1", () -> x.hammer(-1, 0));
    BoomSorters y = boomOf(1);
    refuses(y, STATE, "a LOG in the BOOM", () -> y.hammer(0, 1));
    y.storm(1);
    due("hammer on the SHORE", y.hammer(0, 9), 1);
    due("STROKES", y.ofLog(0, 5), 9);
    BoomSorters z = jamOf(1, 0, 1);
    refuses(z, STATE, "a LOG in a JAM", () -> z.hammer(0, 1));
    z.blast(5);
    refuses(z, STATE, "a LOG that is GONE", () -> z.hammer(0, 1));
  }

  private static void promise7() {
    at = "promise 7";
    BoomSorters x = boomOf(1, 2, 3);
    due("the first ROOM", x.boom(0), 20);
    due("LOGS that are there stay", x.many(6), 3);
    due("the ROOM", x.many(12), 0);
    due("the second ROOM", x.boom(40), 0);
    due("the third ROOM", x.boom(7), 40);
    refuses(x, ARGUMENT, "boom(-1)", () -> x.boom(-1));
    refuses(x, ARGUMENT, "boom(41)", () -> x.boom(41));
  }

  private static void promise8() {
    at = "promise 8";
    BoomSorters x = new BoomSorters();
    due("the first CREW", x.crew(20), 0);
    due("the CREW", x.many(13), 20);
    due("the second CREW", x.crew(0), 20);
    refuses(x, ARGUMENT, "crew(-1)", () -> x.crew(-1));
    refuses(x, ARGUMENT, "crew(21)", () -> x.crew(21));
  }

  private static void promise9() {
    at = "promise 9";
    BoomSorters x = new BoomSorters();
    refuses(x, ARGUMENT, "kind -1", () -> x.order(-1, 3, 1, 0));
    refuses(x, ARGUMENT, "kind 3", () -> x.order(3, 3, 1, 0));
    refuses(x, ARGUMENT, "least 2", () -> x.order(0, 2, 1, 0));
    refuses(x, ARGUMENT, "least 10", () -> x.order(0, 10, 1, 0));
    refuses(x, ARGUMENT, "price 0", () -> x.order(0, 3, 0, 0));
    refuses(x, ARGUMENT, "price 10", () -> x.order(0, 3, 10, 0));
    refuses(x, ARGUMENT, "days -1", () -> x.order(0, 3, 1, -1));
    refuses(x, ARGUMENT, "days 61", () -> x.order(0, 3, 1, 61));
    for (int k = 0; k < 6; k++) {
      due("order", x.order(k % 3, k % 2 == 0 ? 3 : 9, k < 3 ? 1 : 9, k < 3 ? 0 : 60), k);
    }
    due("ORDERS", x.many(16), 6);
    refuses(x, STATE, "the ORDER 7", () -> x.order(0, 3, 1, 0));
    refuses(x, ARGUMENT, "the ORDER 7 with days 61", () -> x.order(0, 3, 1, 61));
  }

  private static void promise10() {
    at = "promise 10";
    BoomSorters x = new BoomSorters();
    due("roll of nothing", x.roll(2), 0);
    x.rocks(2, 4);
    x.mark(0, 22);
    x.fell(0, 2, 0, 9, 1);
    x.fell(0, 3, 0, 9, 1);
    x.fell(0, 2, 1, 9, 2);
    x.fell(0, 2, 1, 9, 3);
    due("roll", x.roll(2), 3);
    due("the other REACH", x.ofReach(3, 9), 1);
    for (int k = 0; k < 3; k++) {
      due("by their numbers", x.row(2, k), new int[] {0, 2, 3}[k]);
    }
    due("no STROKE lost by ROCKS of 4", x.ofLog(0, 5), 22);
    // 9 and 4 and 3 are 16: the first KEY.
    x.fell(0, 2, 2, 9, 4);
    x.fell(0, 2, 2, 3, 5);
    due("roll again", x.roll(2), 2);
    due("KEY", x.ofReach(2, 6), 4);
    due("in the JAM", x.ofReach(2, 5), 2);
    due("its PLACE", place(x, 5), JAM);
    due("AFLOAT", x.ofReach(2, 4), 3);
    due("none left", x.roll(2), 0);
    refuses(x, INDEX, "roll(-1)", () -> x.roll(-1));
    refuses(x, INDEX, "roll(6)", () -> x.roll(6));
    rollOverRocks();
  }

  private static void rollOverRocks() {
    BoomSorters x = new BoomSorters();
    x.mark(0, 22);
    x.rocks(0, 5);
    x.rocks(1, 7);
    x.fell(0, 0, 0, 9, 1);
    x.fell(0, 0, 0, 9, 1);
    x.fell(0, 0, 0, 9, 1);
    x.fell(0, 1, 0, 9, 1);
    x.fell(0, 1, 0, 9, 1);
    x.hammer(1, 0);
    x.hammer(2, 32);
    x.roll(0);
    due("the smallest STROKE is lost", x.ofLog(0, 5), 20);
    due("none to lose", x.ofLog(1, 5), 0);
    due("9, 5 and 1 are 15", place(x, 1), AFLOAT);
    due("9, 5 and 2 are 16", place(x, 2), JAM);
    due("the last STROKE is lost", x.ofLog(2, 5), 0);
    x.roll(1);
    due("a KEY loses one too", x.ofLog(3, 5), 20);
    due("9 and 7 are 16", x.ofReach(1, 6), 3);
    due("in a JAM none is lost", x.ofLog(4, 5), 22);
    for (int strokes = 0; strokes < 64; strokes++) {
      BoomSorters one = jamOf(1, 0, strokes);
      due("the smallest one of " + strokes, one.ofLog(0, 5), strokes - Integer.lowestOneBit(strokes));
    }
    BoomSorters y = new BoomSorters();
    for (int k = 0; k < 8; k++) {
      y.fell(0, 4, 0, k == 7 ? 9 : 3, 1);
    }
    y.roll(4);
    due("without ROCKS, 9 and 7 are 16", y.ofReach(4, 6), 7);
  }

  private static void promise11Water() {
    at = "promise 11, water";
    BoomSorters x = new BoomSorters();
    due("no LOG came", x.pass(25, 1), 0);
    due("NOW", x.many(0), 1);
    due("FLOW of 0", x.ofReach(0, 3), 25);
    due("WATER of 0", x.ofReach(0, 0), 0);
    due("WATER of 1", x.ofReach(1, 0), 25);
    due("FLOW of 1: from 5 up to 0", x.ofReach(1, 3), 0);
    x.pass(40, 1);
    due("FLOW of 0, 30 at most", x.ofReach(0, 3), 30);
    due("WATER of 0", x.ofReach(0, 0), 10);
    due("FLOW of 1", x.ofReach(1, 3), 25);
    due("WATER of 1", x.ofReach(1, 0), 30);
    due("WATER of 2", x.ofReach(2, 0), 25);
    x.gate(1, 1);
    x.gate(2, 0);
    x.pass(0, 1);
    due("FLOW of a GATE of 1", x.ofReach(1, 3), 10);
    due("FLOW of a GATE of 0", x.ofReach(2, 3), 0);
    due("WATER of 0", x.ofReach(0, 0), 0);
    due("WATER of 1", x.ofReach(1, 0), 30);
    due("WATER of 2", x.ofReach(2, 0), 35);
    x.gate(2, 2);
    x.pass(0, 1);
    due("FLOW of a GATE of 2", x.ofReach(2, 3), 20);
    due("WATER of 3", x.ofReach(3, 0), 20);
    due("WATER of all", x.many(17), 65);
    x.pass(0, 2);
    due("WATER of 5", x.ofReach(5, 0), 20);
    due("FLOW of 5 not yet", x.ofReach(5, 3), 0);
    x.pass(0, 1);
    due("FLOW of 5", x.ofReach(5, 3), 20);
    due("WATER of 5 is what came by then", x.ofReach(5, 0), 20);
    due("away", x.many(17), 45);
  }

  private static void promise11Jams() {
    at = "promise 11, jams";
    BoomSorters x = new BoomSorters();
    x.gate(0, 0);
    x.rocks(0, 7);
    x.fell(0, 0, 0, 9, 2);
    x.fell(0, 0, 0, 3, 9);
    x.roll(0);
    due("in the JAM", x.ofReach(0, 5), 2);
    x.pass(11, 1);
    due("11 is below 4, 4 and 2 times 2", x.ofReach(0, 5), 2);
    x.pass(1, 1);
    due("12 is not", x.ofReach(0, 5), 0);
    due("AFLOAT in order", x.row(0, 0), 0);
    due("AFLOAT in order", x.row(0, 1), 1);
    due("PLACE", place(x, 1), AFLOAT);
    // The WATER counts as it is behind the FLOW; what broke free goes on on that DAY.
    BoomSorters y = new BoomSorters();
    y.rocks(0, 7);
    y.fell(0, 0, 0, 9, 1);
    y.roll(0);
    y.pass(35, 1);
    due("5 are left: 6 are too few", place(y, 0), JAM);
    due("another DAY", y.pass(31, 1), 0);
    due("6 are left: it is at the next REACH", y.ofReach(1, 4), 1);
    // Behind the others.
    BoomSorters z = new BoomSorters();
    z.gate(0, 0);
    z.fell(0, 0, 0, 3, 1);
    z.roll(0);
    z.rocks(0, 9);
    z.fell(0, 0, 0, 6, 1);
    z.roll(0);
    due("6, 9 and 1 are 16", z.ofReach(0, 6), 1);
    z.pass(40, 1);
    due("the first one", z.row(0, 0), 0);
    due("behind it", z.row(0, 1), 1);
  }

  private static void promise11Driving() {
    at = "promise 11, driving";
    BoomSorters x = new BoomSorters();
    x.fell(0, 0, 0, 3, 3);
    x.fell(0, 0, 0, 3, 2);
    x.fell(0, 0, 0, 3, 1);
    x.roll(0);
    x.pass(3, 1);
    due("a FLOW of 3 carries no LOG", x.ofReach(0, 4), 3);
    x.pass(4, 1);
    due("a FLOW of 4 carries one", x.ofReach(0, 4), 2);
    due("the first one that is thin enough", x.row(1, 0), 1);
    due("the thick one stays", x.row(0, 0), 0);
    x.pass(7, 1);
    due("a FLOW of 7 carries one", x.ofReach(0, 4), 1);
    due("7 are enough for a GIRTH of 3", x.row(0, 0), 2);
    due("a FLOW of 4 carried the LOG 1 on", x.row(2, 0), 1);
    due("the LOG 0 came to 1", x.row(1, 0), 0);
    // A LOG goes one REACH a DAY; those ahead of it are gone first.
    BoomSorters y = flowing();
    for (int k = 0; k < 7; k++) {
      y.fell(0, 3, 0, 3, 1);
    }
    y.fell(0, 2, 0, 9, 1);
    y.roll(3);
    y.roll(2);
    y.pass(40, 1);
    due("seven went on", y.ofReach(4, 4), 7);
    due("the eighth found nobody", place(y, 7), AFLOAT);
    due("and went but one REACH", y.ofLog(7, 1), 3);
    BoomSorters z = flowing();
    z.rocks(3, 7);
    z.mark(0, 6);
    for (int k = 0; k < 9; k++) {
      z.fell(0, 2, 0, k == 1 ? 9 : 3, 1);
    }
    z.roll(2);
    z.pass(40, 1);
    due("30 / 4 are 7", z.ofReach(2, 4), 2);
    due("the first one is AFLOAT", z.row(3, 0), 0);
    due("a STROKE is lost on the way", z.ofLog(0, 5), 4);
    due("9, 7 and 1: the KEY", z.ofReach(3, 6), 1);
    due("the others come to the JAM", z.ofReach(3, 5), 6);
    due("without losing", z.ofLog(2, 5), 6);
    due("in order: the next one", z.row(2, 0), 7);
  }

  private static void promise11Boom() {
    at = "promise 11, the boom";
    BoomSorters x = flowing();
    x.boom(2);
    for (int k = 0; k < 4; k++) {
      rolled(x, 1, 0, 5, 1);
    }
    due("two came", x.pass(40, 1), 2);
    due("row", x.row(NONE, 0), 0);
    due("row", x.row(NONE, 1), 1);
    due("its REACH", x.ofLog(0, 1), NONE);
    due("the others are on the SHORE", place(x, 2), SHORE);
    due("of 5", x.ofLog(3, 1), 5);
    due("SOAKED less on that DAY", x.ofLog(3, 6), 0);
    due("SOAKED more in the BOOM", x.ofLog(0, 6), 1);
    x.boom(3);
    rolled(x, 1, 0, 5, 1);
    rolled(x, 1, 0, 5, 1);
    due("one more came in two DAYS", x.pass(40, 2), 1);
    due("LOGS in the BOOM", x.many(6), 3);
    due("on the SHORE", x.ofReach(5, 7), 3);
    // One that comes and sinks on the same DAY came.
    BoomSorters y = new BoomSorters();
    y.gate(5, 0);
    rolled(y, 1, 2, 5, 1);
    y.pass(40, 6);
    y.gate(5, 3);
    due("it came", y.pass(40, 1), 1);
    due("and is SUNK", place(y, 0), SUNK);
    due("at 5", y.ofLog(0, 1), 5);
    due("the BOOM is empty", y.row(NONE, 0), NONE);
  }

  private static void promise11Soaking() {
    at = "promise 11, soaking";
    BoomSorters x = boomOf(1, 2, 0, 0, 1);
    int shore = 4;
    x.storm(1);
    x.sort(3);
    int afloat = x.fell(0, 5, 2, 3, 1);
    x.roll(5);
    int woods = x.fell(0, 5, 2, 3, 1);
    due("GAP", place(x, 0), GAP);
    due("POOL", place(x, 2), POOL);
    due("BOOM", place(x, 3), BOOM);
    x.gate(5, 0);
    x.pass(0, 3);
    due("in a GAP", x.ofLog(0, 6), 4);
    due("in the POOL", x.ofLog(2, 6), 4);
    due("in the BOOM", x.ofLog(3, 6), 4);
    due("an OAK AFLOAT", x.ofLog(afloat, 6), 6);
    due("on the SHORE, 0 at least", x.ofLog(shore, 6), 0);
    due("in the WOODS", x.ofLog(woods, 6), 0);
    x.order(0, 3, 1, 9);
    x.raft(0, 0, 1);
    x.pass(0, 1);
    due("on a RAFT", x.ofLog(0, 6), 4);
    x.pass(0, 3);
    due("at a MILL", x.ofLog(0, 6), 4);
    // On the SHORE, by one.
    x.storm(1);
    due("SOAKED as it was", x.ofLog(3, 6), 8);
    x.pass(0, 3);
    due("three less", x.ofLog(3, 6), 5);
    BoomSorters y = jamOf(1, 0, 1);
    y.pass(0, 2);
    due("in a JAM", y.ofLog(0, 6), 2);
  }

  private static void promise11Sinking() {
    at = "promise 11, sinking";
    int[] days = {24, 18, 7};
    for (int kind = 0; kind < 3; kind++) {
      BoomSorters x = new BoomSorters();
      x.fell(0, 3, kind, 4, 1);
      x.roll(3);
      x.pass(0, days[kind] / 2);
      x.pass(0, days[kind] - days[kind] / 2 - 1);
      due("the DAY before", place(x, 0), AFLOAT);
      x.pass(0, 1);
      due("SUNK", place(x, 0), SUNK);
      due("at its REACH", x.ofLog(0, 1), 3);
      due("SOAKED", x.ofLog(0, 6), new int[] {24, 18, 14}[kind]);
      due("the DAY on which it SANK", x.ofLog(0, 8), days[kind]);
      due("LOGS AFLOAT", x.ofReach(3, 4), 0);
      due("LOGS SUNK", x.ofReach(3, 8), 1);
      x.pass(0, 2);
      due("no more SOAKED", x.ofLog(0, 6), new int[] {24, 18, 14}[kind]);
    }
    // An OAK that dried in between: 12, 11, 13, 15.
    BoomSorters oak = flowing();
    rolled(oak, 1, 2, 3, 1);
    oak.pass(40, 1);
    oak.pass(0, 5);
    oak.gate(5, 0);
    oak.storm(1);
    oak.pass(0, 1);
    oak.push(0);
    oak.pass(0, 1);
    due("SOAKED by 13", oak.ofLog(0, 6), 13);
    due("it swims", place(oak, 0), AFLOAT);
    oak.pass(0, 1);
    due("SOAKED by 15", oak.ofLog(0, 6), 15);
    due("it is SUNK", place(oak, 0), SUNK);
    // The KEY sinks: the next one is the KEY. The last one sinks: there is no JAM.
    BoomSorters x = new BoomSorters();
    x.rocks(2, 7);
    x.fell(0, 2, 2, 9, 9);
    x.fell(0, 2, 1, 9, 9);
    x.roll(2);
    x.pass(0, 7);
    due("the next KEY", x.ofReach(2, 6), 1);
    due("in the JAM", x.ofReach(2, 5), 1);
    x.pass(0, 11);
    due("no JAM", x.ofReach(2, 6), NONE);
    due("SUNK", x.ofReach(2, 8), 2);
    // From a GAP and the POOL: at 5.
    BoomSorters y = boomOf(1, 2, 0, 1);
    y.sort(4);
    y.pass(0, 20);
    y.pass(0, 2);
    due("23 days", place(y, 0), GAP);
    y.pass(0, 1);
    for (int log = 0; log < 4; log++) {
      due("SUNK", place(y, log), SUNK);
      due("at 5", y.ofLog(log, 1), 5);
    }
    due("the GAP is empty", y.ofOwner(0, 2), 0);
    due("no first one", y.ofOwner(0, 3), NONE);
    due("nothing to SHARE", y.share(), 0);
    due("what was SORTED stays told", y.ofOwner(0, 7), 20);
  }

  private static void promise11Rafts() {
    at = "promise 11, rafts";
    BoomSorters x = boomOf(1, 1, 1, 1, 1, 1);
    x.order(0, 5, 3, 3);
    x.order(0, 5, 3, 2);
    x.sort(40);
    due("three LOGS", x.raft(0, 0, 3), 3);
    due("two LOGS", x.raft(0, 1, 2), 2);
    due("RAFTS", x.many(15), 2);
    x.pass(0, 1);
    due("not yet", x.many(15), 2);
    due("no MONEY", x.ofOwner(0, 1), 0);
    x.pass(0, 1);
    due("2 DAYS later the small one came", x.many(15), 1);
    due("on its DAY it is not late", x.ofOwner(0, 1), 60);
    due("came to MILLS", x.ofOwner(0, 5), 2);
    due("PLACE", place(x, 3), MILL);
    due("REACH", x.ofLog(3, 1), NONE);
    due("still on a RAFT", place(x, 2), RAFT);
    x.pass(0, 1);
    due("1 DAY more for 3 LOGS", x.ofOwner(0, 1), 150);
    due("RAFTS", x.many(15), 0);
    due("LOGS in RAFTS", x.ofOwner(0, 4), 0);
    due("came to MILLS", x.ofOwner(0, 5), 5);
    // Half of each by itself, if it is late.
    BoomSorters y = flowing();
    y.mark(1, 1);
    rolled(y, 1, 1, 5, 1);
    rolled(y, 1, 1, 7, 1);
    y.pass(40, 1);
    y.sort(2);
    y.order(1, 3, 3, 1);
    due("two LOGS", y.raft(1, 0, 6), 2);
    y.pass(0, 2);
    due("15 / 2 and 21 / 2", y.ofOwner(1, 1), 17);
    // Six LOGS: 4 DAYS.
    BoomSorters z = boomOf(1, 1, 1, 1, 1, 1, 1);
    z.sort(40);
    z.order(0, 3, 1, 60);
    due("six LOGS", z.raft(0, 0, 6), 6);
    z.pass(0, 3);
    due("not yet", z.ofOwner(0, 1), 0);
    z.pass(0, 1);
    due("now", z.ofOwner(0, 1), 60);
  }

  private static void promise11Costs() {
    at = "promise 11, costs";
    BoomSorters x = new BoomSorters();
    x.crew(7);
    x.pass(0, 3);
    due("COSTS", x.many(14), 21);
    x.crew(0);
    x.pass(0, 20);
    due("without a CREW", x.many(14), 21);
    due("NOW", x.many(0), 23);
  }

  private static void promise11Wrong() {
    at = "promise 11, wrong inputs";
    BoomSorters x = boomOf(1);
    refuses(x, ARGUMENT, "melt -1", () -> x.pass(-1, 1));
    refuses(x, ARGUMENT, "melt 41", () -> x.pass(41, 1));
    refuses(x, ARGUMENT, "days 0", () -> x.pass(0, 0));
    refuses(x, ARGUMENT, "days 21", () -> x.pass(0, 21));
    refuses(x, ARGUMENT, "days greatest", () -> x.pass(0, Integer.MAX_VALUE));
  }

  private static void promise12() {
    at = "promise 12";
    BoomSorters x = jamOf(3, 3, 7);
    x.crew(3);
    long before = x.digest();
    due("3 are below 3 and 4 / 4", x.pull(5), -2);
    dueLong("nothing changed", x.digest(), before);
    x.crew(4);
    due("4 are not", x.pull(5), 4);
    due("no JAM", x.ofReach(5, 5), 0);
    for (int k = 0; k < 4; k++) {
      due("AFLOAT in order", x.row(5, k), k);
      due("STROKES", x.ofLog(k, 5), k == 0 ? 6 : 7);
      due("PLACE", place(x, k), AFLOAT);
    }
    due("COSTS", x.many(14), 0);
    refuses(x, STATE, "no JAM", () -> x.pull(5));
    refuses(x, INDEX, "pull(-1)", () -> x.pull(-1));
    refuses(x, INDEX, "pull(6)", () -> x.pull(6));
    BoomSorters y = jamOf(9, 2, 0);
    y.crew(9);
    due("3 / 4 are 0", y.pull(5), 3);
  }

  private static void promise13() {
    at = "promise 13";
    BoomSorters x = jamOf(9, 3, 44);
    due("blast", x.blast(5), 0);
    due("COSTS", x.many(14), 8);
    due("the KEY", place(x, 0), GONE);
    due("its REACH", x.ofLog(0, 1), NONE);
    due("its STROKES (one was lost on the ROCKS)", x.ofLog(0, 5), 40);
    for (int k = 0; k < 3; k++) {
      due("AFLOAT in order", x.row(5, k), k + 1);
      due("the greatest STROKE is lost", x.ofLog(k + 1, 5), 12);
    }
    due("no JAM", x.ofReach(5, 5), 0);
    due("GONE", x.many(11), 1);
    refuses(x, STATE, "no JAM", () -> x.blast(5));
    refuses(x, INDEX, "blast(-1)", () -> x.blast(-1));
    refuses(x, INDEX, "blast(6)", () -> x.blast(6));
    BoomSorters y = jamOf(1, 1, 1);
    y.blast(5);
    due("the only STROKE", y.ofLog(1, 5), 0);
    BoomSorters z = jamOf(1, 1, 0);
    z.blast(5);
    due("no STROKE to lose", z.ofLog(1, 5), 0);
    due("a JAM of just its KEY", jamOf(1, 0, 0).blast(5), 0);
    for (int strokes = 0; strokes < 64; strokes++) {
      BoomSorters one = jamOf(1, 1, strokes);
      one.blast(5);
      due("the greatest one of " + strokes, one.ofLog(1, 5), strokes - Integer.highestOneBit(strokes));
    }
  }

  private static void promise14() {
    at = "promise 14";
    BoomSorters x = boomOf(1, 6, 1, 1);
    refuses(x, STATE, "a LOG in the BOOM", () -> x.push(0));
    x.storm(3);
    x.rocks(5, 5);
    due("push", x.push(1), AFLOAT);
    due("COSTS", x.many(14), 1);
    due("a STROKE is lost", x.ofLog(1, 5), 4);
    due("row", x.row(5, 0), 1);
    due("REACH", x.ofLog(1, 1), 5);
    x.rocks(5, 9);
    due("5, 9 and 1 are 15", x.push(3), AFLOAT);
    due("5, 9 and 2 are 16", x.push(2), JAM);
    due("COSTS", x.many(14), 3);
    due("the SHORE", x.ofReach(5, 7), 0);
    refuses(x, STATE, "a LOG that is AFLOAT", () -> x.push(1));
    refuses(x, INDEX, "push(-1)", () -> x.push(-1));
    refuses(x, INDEX, "push(4)", () -> x.push(4));
    // A LOG that was raised elsewhere comes to its own REACH.
    BoomSorters y = new BoomSorters();
    y.fell(0, 2, 2, 3, 1);
    y.roll(2);
    y.pass(0, 7);
    y.raise(0, 0);
    due("push", y.push(0), AFLOAT);
    due("its REACH", y.row(2, 0), 0);
  }

  private static void promise15() {
    at = "promise 15";
    BoomSorters x = boomOf(1, 2, 4, 8, 1);
    due("storm", x.storm(2), 2);
    due("the last ones", place(x, 4), SHORE);
    due("the last ones", place(x, 3), SHORE);
    due("at 5", x.ofLog(3, 1), 5);
    due("the first ones", x.row(NONE, 2), 2);
    due("no fourth one", x.row(NONE, 3), NONE);
    due("no COSTS", x.many(14), 0);
    due("no more than there are", x.storm(9), 3);
    due("the BOOM", x.many(6), 0);
    due("the SHORE", x.ofReach(5, 7), 5);
    due("an empty BOOM", x.storm(1), 0);
    refuses(x, ARGUMENT, "storm(0)", () -> x.storm(0));
    refuses(x, ARGUMENT, "storm(10)", () -> x.storm(10));
  }

  private static void promise16() {
    at = "promise 16";
    BoomSorters x = boomOf(1, 0, 2, 3, 1);
    due("sort: one of three is in the POOL", x.sort(3), 1);
    due("COSTS", x.many(14), 3);
    due("from the first one on", place(x, 0), GAP);
    due("without STROKES", place(x, 1), POOL);
    due("its REACH", x.ofLog(1, 1), NONE);
    due("the next one in the BOOM", x.row(NONE, 0), 3);
    due("GAP of 0", x.ofOwner(0, 3), 0);
    due("GAP of 1", x.ofOwner(1, 3), 2);
    due("sort the rest", x.sort(40), 1);
    due("COSTS for those there were", x.many(14), 5);
    due("nobody's", place(x, 3), POOL);
    due("GAP of 0", x.ofOwner(0, 2), 2);
    due("the first one", x.ofOwner(0, 3), 0);
    due("SCALE SORTED", x.ofOwner(0, 7), 20);
    due("an empty BOOM", x.sort(1), 0);
    refuses(x, ARGUMENT, "sort(0)", () -> x.sort(0));
    refuses(x, ARGUMENT, "sort(41)", () -> x.sort(41));
    // Several OWNERS with that MARK: the POOL.
    BoomSorters y = boomOf(1, 2);
    y.mark(3, 3);
    due("two OWNERS each", y.sort(2), 2);
  }

  private static void promise17() {
    at = "promise 17";
    BoomSorters x = boomOf(0, 1, 0, 0);
    due("nothing to SHARE", x.share(), 0);
    x.sort(4);
    due("share", x.share(), 3);
    due("POOL", x.many(8), 0);
    // SHARES: 10, 0, 0, 0; then -20: the first of the others; then the next one.
    due("the greatest SHARE", x.ofOwner(0, 6), 1);
    due("of several the first one", x.ofOwner(1, 6), 1);
    due("the next one", x.ofOwner(2, 6), 1);
    due("none for the last one", x.ofOwner(3, 6), 0);
    due("in order: behind the SORTED one", x.ofOwner(0, 3), 1);
    due("GAP of 0", x.ofOwner(0, 2), 2);
    due("GAP of 1", x.ofOwner(1, 3), 2);
    due("GAP of 2", x.ofOwner(2, 3), 3);
    due("what is SHARED is not SORTED", x.ofOwner(0, 7), 10);
    due("STROKES", x.ofLog(0, 5), 0);
    due("COSTS of sorting alone", x.many(14), 4);
    sharesOfThirty();
    // 30 less for each: an OWNER with 60 and one with 40.
    BoomSorters y = flowing();
    y.mark(1, 2);
    y.mark(3, 8);
    rolled(y, 2, 0, 5, 8);
    rolled(y, 8, 0, 6, 10 - 1);
    rolled(y, 8, 0, 6, 1);
    for (int k = 0; k < 4; k++) {
      rolled(y, 0, 0, 5, 1);
    }
    y.pass(40, 1);
    y.sort(7);
    due("SORTED", y.ofOwner(1, 7), 40);
    due("SORTED", y.ofOwner(3, 7), 60);
    y.share();
    // 60 and 40: 3; 30 and 40: 1; 30 and 10: 3; 0, 10, 0, 0: 1.
    due("OWNER 3", y.ofOwner(3, 6), 2);
    due("OWNER 1", y.ofOwner(1, 6), 2);
    due("PLACE", place(y, 6), GAP);
  }

  /** 30 are just gone by the first LOG of the POOL: then all four are at 0, and it is the first one's turn. */
  private static void sharesOfThirty() {
    for (int owner = 0; owner < 2; owner++) {
      BoomSorters x = flowing();
      x.mark(owner, 1);
      rolled(x, 1, 0, 5, 6);
      rolled(x, 0, 0, 5, 1);
      rolled(x, 0, 0, 5, 1);
      x.pass(40, 1);
      x.sort(3);
      x.share();
      due("the OWNER with 30", x.ofOwner(owner, 6), owner == 0 ? 2 : 1);
      due("the OWNER 0", x.ofOwner(0, 6), owner == 0 ? 2 : 1);
    }
  }

  private static void promise18() {
    at = "promise 18";
    BoomSorters x = boomOf(1, 1, 2);
    x.crew(10);
    x.pass(0, 1);
    x.sort(3);
    due("COSTS", x.many(14), 13);
    x.fell(0, 0, 0, 9, 9);
    due("settle: 13 by 20 to 10, the WOODS do not count", x.settle(0), 1);
    due("OWNER 0", x.ofOwner(0, 1), -8);
    due("OWNER 1", x.ofOwner(1, 1), -4);
    due("OWNER 2", x.ofOwner(2, 1), 0);
    due("COSTS", x.many(14), 1);
    due("too little for anybody", x.settle(0), 1);
    due("by 2 nothing is held", x.settle(2), 1);
    refuses(x, ARGUMENT, "settle(-1)", () -> x.settle(-1));
    refuses(x, ARGUMENT, "settle(3)", () -> x.settle(3));
    settleByRules();
    settleRafts();
  }

  private static void settleByRules() {
    // Length 5, girth 4 and length 6, girth 6: by 0 20 to 36, by 1 10 to 27, by 2 10 to 24.
    int[][] wants = {{35, 64, 1}, {27, 72, 1}, {29, 70, 1}};
    for (int rule = 0; rule < 3; rule++) {
      BoomSorters x = flowing();
      x.mark(0, 1);
      x.mark(3, 8);
      rolled(x, 1, 0, 5, 4);
      rolled(x, 8, 0, 6, 6);
      x.pass(40, 1);
      x.sort(2);
      x.crew(14);
      x.pass(0, 7);
      due("COSTS", x.many(14), 100);
      due("settle by " + rule, x.settle(rule), wants[rule][2]);
      due("OWNER 0", x.ofOwner(0, 1), -wants[rule][0]);
      due("OWNER 3", x.ofOwner(3, 1), -wants[rule][1]);
    }
    BoomSorters y = new BoomSorters();
    y.crew(5);
    y.pass(0, 1);
    due("nobody holds anything", y.settle(0), 5);
  }

  private static void settleRafts() {
    BoomSorters x = boomOf(1, 1, 2);
    x.sort(3);
    x.order(0, 3, 1, 60);
    x.raft(0, 0, 1);
    x.crew(18);
    x.pass(0, 1);
    x.crew(0);
    due("COSTS", x.many(14), 21);
    due("a RAFT counts", x.settle(0), 0);
    due("OWNER 0", x.ofOwner(0, 1), -14);
    x.crew(15);
    x.pass(0, 2);
    due("at the MILL", place(x, 0), MILL);
    due("a MILL counts", x.settle(0), 0);
    due("OWNER 0: 14 less, 10 more, 20 less", x.ofOwner(0, 1), -24);
    due("OWNER 1", x.ofOwner(1, 1), -17);
    // What sank out of a GAP, and what is in the POOL, does not count.
    BoomSorters y = boomOf(1, 0);
    y.sort(2);
    y.pass(0, 20);
    y.pass(0, 3);
    due("SUNK", place(y, 0), SUNK);
    due("nobody holds anything", y.settle(0), 2);
  }

  private static void promise19() {
    at = "promise 19";
    BoomSorters x = flowing();
    x.mark(2, 1);
    rolled(x, 1, 0, 4, 1);
    rolled(x, 1, 1, 5, 1);
    rolled(x, 1, 0, 5, 1);
    rolled(x, 1, 0, 6, 1);
    rolled(x, 1, 0, 7, 1);
    x.pass(40, 1);
    x.sort(5);
    x.order(0, 5, 2, 9);
    x.order(2, 3, 2, 9);
    x.order(1, 6, 2, 9);
    refuses(x, INDEX, "owner -1", () -> x.raft(-1, 0, 1));
    refuses(x, INDEX, "owner 4", () -> x.raft(4, 0, 7));
    refuses(x, INDEX, "order -1", () -> x.raft(2, -1, 1));
    refuses(x, INDEX, "order 3", () -> x.raft(2, 3, 0));
    refuses(x, ARGUMENT, "many 0", () -> x.raft(2, 0, 0));
    refuses(x, ARGUMENT, "many 7", () -> x.raft(2, 0, 7));
    long before = x.digest();
    due("no OAK", x.raft(2, 1, 6), -2);
    due("none as long", x.raft(2, 2, 6), -2);
    due("an empty GAP", x.raft(0, 0, 6), -2);
    dueLong("nothing changed", x.digest(), before);
    due("two at most", x.raft(2, 0, 2), 2);
    due("the first ones of that LENGTH", place(x, 2), RAFT);
    due("the first ones of that LENGTH", place(x, 3), RAFT);
    due("too short", place(x, 0), GAP);
    due("another KIND", place(x, 1), GAP);
    due("not the third one", place(x, 4), GAP);
    due("its REACH", x.ofLog(2, 1), NONE);
    due("GAP", x.ofOwner(2, 2), 3);
    due("RAFTS", x.ofOwner(2, 4), 2);
    due("the rest", x.raft(2, 0, 6), 1);
    due("no more", x.raft(2, 0, 1), -2);
    due("RAFTS under way", x.many(15), 2);
  }

  private static void promise20() {
    at = "promise 20";
    BoomSorters x = new BoomSorters();
    x.mark(1, 3);
    x.mark(2, 12);
    x.fell(1, 1, 2, 3, 1);
    x.fell(1, 1, 2, 3, 1);
    x.fell(1, 1, 2, 3, 1);
    x.hammer(2, 0);
    refuses(x, STATE, "in the WOODS", () -> x.raise(0, 0));
    x.roll(1);
    x.pass(0, 7);
    x.pass(0, 9);
    due("9 DAYS ago: its own STROKES", x.raise(0, 2), 1);
    due("PLACE", place(x, 0), SHORE);
    due("REACH", x.ofLog(0, 1), 1);
    due("SOAKED", x.ofLog(0, 6), 0);
    due("the DAY stays told", x.ofLog(0, 8), 7);
    due("MONEY", x.ofOwner(2, 1), -4);
    due("COSTS", x.many(14), 0);
    due("without STROKES: those of the MARK", x.raise(2, 2), 2);
    due("STROKES", x.ofLog(2, 5), 12);
    x.pass(0, 1);
    due("10 DAYS ago: those of the MARK", x.raise(1, 2), 2);
    due("STROKES", x.ofLog(1, 5), 12);
    due("MONEY", x.ofOwner(2, 1), -12);
    refuses(x, STATE, "on the SHORE", () -> x.raise(0, 0));
    refuses(x, INDEX, "log -1", () -> x.raise(-1, 0));
    refuses(x, INDEX, "log 3", () -> x.raise(3, 0));
    refuses(x, INDEX, "owner -1", () -> x.raise(0, -1));
    refuses(x, INDEX, "owner 4, not SUNK", () -> x.raise(0, 4));
    BoomSorters y = new BoomSorters();
    y.fell(0, 1, 2, 3, 1);
    y.roll(1);
    y.pass(0, 7);
    due("an OWNER without a MARK", y.raise(0, 3), NONE);
    // (At the REACH 0 too.)
    y.fell(0, 0, 2, 3, 1);
    y.roll(0);
    y.pass(0, 7);
    y.raise(1, 3);
    due("push at 0", y.push(1), AFLOAT);
    due("AFLOAT at 0", y.row(0, 0), 1);
    // What was raised can come, and sink, again; it SANK last on the later DAY.
    y.push(0);
    y.pass(0, 7);
    due("SANK again", y.ofLog(0, 8), 21);
    y.pass(0, 3);
    y.mark(0, 9);
    due("raised again", y.raise(0, 0), 0);
  }

  private static void promise21() {
    at = "promise 21";
    BoomSorters x = boomOf(1, 1, 1, 2, 0);
    x.sort(5);
    x.share();
    x.order(0, 3, 4, 60);
    x.raft(0, 0, 2);
    x.pass(0, 2);
    x.raft(0, 0, 1);
    // SHARES 30 and 10: the OWNER 0 got the one of the POOL.
    int[] want = {1, 80, 1, 4, 1, 2, 1, 30};
    for (int what = 0; what <= 7; what++) {
      due("ofOwner(0, " + what + ")", x.ofOwner(0, what), want[what]);
    }
    int[] second = {2, 0, 1, 3, 0, 0, 0, 10};
    for (int what = 0; what <= 7; what++) {
      due("ofOwner(1, " + what + ")", x.ofOwner(1, what), second[what]);
    }
    refuses(x, INDEX, "owner -1", () -> x.ofOwner(-1, 0));
    refuses(x, INDEX, "owner 4", () -> x.ofOwner(4, 8));
    refuses(x, ARGUMENT, "what -1", () -> x.ofOwner(0, -1));
    refuses(x, ARGUMENT, "what 8", () -> x.ofOwner(0, 8));
    // Both anew, also for a LOG that comes again.
    BoomSorters y = boomOf(1);
    y.sort(1);
    y.pass(40, 20);
    y.pass(40, 3);
    y.raise(0, 1);
    y.push(0);
    y.pass(40, 1);
    y.sort(1);
    due("SORTED twice", y.ofOwner(0, 7), 20);
    due("GAP", y.ofOwner(0, 2), 1);
  }

  private static void promise22() {
    at = "promise 22";
    BoomSorters x = new BoomSorters();
    x.gate(0, 2);
    x.fell(0, 0, 2, 3, 9);
    x.roll(0);
    x.pass(0, 7);
    x.fell(0, 0, 2, 3, 9);
    x.roll(0);
    x.pass(0, 7);
    x.raise(1, 0);
    x.fell(0, 0, 0, 3, 9);
    x.roll(0);
    x.rocks(0, 9);
    x.fell(0, 0, 0, 6, 9);
    x.fell(0, 0, 0, 3, 1);
    x.roll(0);
    x.fell(0, 0, 0, 3, 1);
    x.pass(10, 1);
    x.gate(0, 0);
    x.pass(7, 1);
    x.gate(0, 2);
    int[] want = {7, 2, 9, 0, 1, 2, 3, 1, 1, 1};
    for (int what = 0; what <= 9; what++) {
      due("ofReach(0, " + what + ")", x.ofReach(0, what), want[what]);
    }
    x.pass(5, 1);
    due("FLOW of the latest DAY", x.ofReach(0, 3), 12);
    refuses(x, INDEX, "reach -1", () -> x.ofReach(-1, 0));
    refuses(x, INDEX, "reach 6", () -> x.ofReach(6, 10));
    refuses(x, ARGUMENT, "what -1", () -> x.ofReach(0, -1));
    refuses(x, ARGUMENT, "what 10", () -> x.ofReach(0, 10));
  }

  private static void promise23Places() {
    at = "promise 23, places";
    BoomSorters x = boomOf(1, 1, 0, 1, 1);
    x.order(0, 3, 1, 60);
    x.sort(3);
    x.raft(0, 0, 1);
    x.storm(1);
    x.fell(0, 4, 0, 3, 1);
    x.rocks(5, 9);
    x.fell(0, 5, 0, 7, 1);
    x.roll(5);
    int[] places = {RAFT, GAP, POOL, BOOM, SHORE, WOODS, JAM};
    int[] reaches = {NONE, NONE, NONE, NONE, 5, 4, 5};
    for (int log = 0; log < places.length; log++) {
      due("PLACE of " + log, x.ofLog(log, 0), places[log]);
      due("REACH of " + log, x.ofLog(log, 1), reaches[log]);
    }
    x.blast(5);
    due("GONE", x.ofLog(6, 0), GONE);
    x.pass(0, 2);
    due("MILL", x.ofLog(0, 0), MILL);
    due("REACH of one that is GONE", x.ofLog(6, 1), NONE);
    due("never SUNK", x.ofLog(6, 8), NONE);
    refuses(x, INDEX, "log -1", () -> x.ofLog(-1, 0));
    refuses(x, INDEX, "log 7", () -> x.ofLog(7, 9));
    refuses(x, ARGUMENT, "what -1", () -> x.ofLog(0, -1));
    refuses(x, ARGUMENT, "what 9", () -> x.ofLog(0, 9));
  }

  private static void promise23Whose() {
    at = "promise 23, whose";
    BoomSorters x = new BoomSorters();
    x.mark(0, 3);
    x.mark(1, 5);
    x.mark(2, 24);
    int log = x.fell(0, 0, 0, 3, 1);
    int[][] cases = {{3, 0}, {1, NONE}, {2, 0}, {4, 1}, {5, 1}, {6, NONE}, {7, NONE}, {8, 2}, {16, 2}, {24, 2},
        {32, NONE}, {0, NONE}, {63, NONE}};
    for (int[] c : cases) {
      x.hammer(log, c[0]);
      due("WHOSE with STROKES " + c[0], x.ofLog(log, 7), c[1]);
    }
    x.mark(3, 63);
    x.hammer(log, 63);
    due("the OWNER 3 has them all", x.ofLog(log, 7), 3);
  }

  private static void promise24() {
    at = "promise 24";
    BoomSorters x = boomOf(1, 2);
    x.fell(0, 3, 0, 3, 1);
    x.fell(0, 3, 0, 3, 1);
    x.roll(3);
    due("the first one in the BOOM", x.row(NONE, 0), 0);
    due("the second one", x.row(NONE, 1), 1);
    due("no third one", x.row(NONE, 2), NONE);
    due("AFLOAT", x.row(3, 0), 2);
    due("AFLOAT", x.row(3, 1), 3);
    due("no third one", x.row(3, 2), NONE);
    due("far behind", x.row(3, Integer.MAX_VALUE), NONE);
    due("far behind", x.row(NONE, 40), NONE);
    due("an empty REACH", x.row(4, 0), NONE);
    refuses(x, INDEX, "row(-2, 0)", () -> x.row(-2, 0));
    refuses(x, INDEX, "row(6, -1)", () -> x.row(6, -1));
    refuses(x, ARGUMENT, "row(5, -1)", () -> x.row(5, -1));
    refuses(x, ARGUMENT, "row(NONE, -1)", () -> x.row(NONE, -1));
    BoomSorters y = jamOf(1, 1, 0);
    due("in a JAM is not AFLOAT", y.row(5, 0), NONE);
  }

  private static void promise25() {
    at = "promise 25";
    BoomSorters x = new BoomSorters();
    x.fell(0, 0, 2, 7, 5);
    x.fell(0, 0, 2, 9, 1);
    x.fell(0, 0, 2, 3, 2);
    int[][] wants = {{35, 21, 21}, {9, 1, 0}, {6, 1, 0}};
    for (int log = 0; log < 3; log++) {
      for (int rule = 0; rule < 3; rule++) {
        due("scale(" + log + ", " + rule + ")", x.scale(log, rule), wants[log][rule]);
      }
    }
    x.roll(0);
    x.pass(0, 4);
    due("SOAKED by 8", x.scale(0, 2), 21);
    x.pass(0, 1);
    due("SOAKED by 10: half", x.scale(0, 2), 10);
    x.fell(0, 1, 0, 7, 5);
    x.roll(1);
    x.pass(0, 1);
    for (int k = 0; k < 9; k++) {
      due("a PINE SOAKED by less than 10", x.scale(3, 2), 21);
      x.pass(0, 1);
    }
    due("a PINE SOAKED by 10", x.scale(3, 2), 10);
    due("by the rule 0", x.scale(0, 0), 35);
    due("by the rule 1", x.scale(0, 1), 21);
    refuses(x, INDEX, "log -1", () -> x.scale(-1, 0));
    refuses(x, INDEX, "log 4", () -> x.scale(4, 3));
    refuses(x, ARGUMENT, "rule -1", () -> x.scale(0, -1));
    refuses(x, ARGUMENT, "rule 3", () -> x.scale(0, 3));
  }

  private static void promise26() {
    at = "promise 26";
    BoomSorters x = boomOf(1, 1, 0, 1, 1, 1, 1);
    x.order(0, 3, 1, 60);
    x.sort(4);
    x.raft(0, 0, 1);
    x.storm(2);
    x.crew(2);
    x.pass(0, 1);
    x.fell(0, 4, 2, 3, 1);
    x.roll(4);
    x.fell(0, 4, 0, 3, 1);
    x.rocks(0, 9);
    x.fell(0, 0, 0, 7, 9);
    x.roll(0);
    x.boom(11);
    // NONE's are 2 (no STROKES) and 9 (its STROKE was lost on the ROCKS).
    // NOW 8; WOODS 8; AFLOAT 7; JAM 9; SHORE 5, 6; SUNK none; BOOM 4; GAP 1, 3; POOL 2; RAFT 0.
    int[] want = {8, 1, 1, 1, 2, 0, 1, 2, 1, 1, 0, 0, 11, 2, 6, 1, 1, x.many(17), 2};
    for (int what = 0; what <= 18; what++) {
      due("many(" + what + ")", x.many(what), want[what]);
    }
    int water = 0;
    for (int reach = 0; reach < 6; reach++) {
      water += x.ofReach(reach, 0);
    }
    due("WATER of all", x.many(17), water);
    due("there is WATER", water > 0 ? 1 : 0, 1);
    x.blast(0);
    x.pass(0, 7);
    due("SUNK", x.many(5), 1);
    due("MILL", x.many(10), 1);
    due("GONE", x.many(11), 1);
    due("no RAFT under way", x.many(15), 0);
    x.mark(0, 0);
    due("all are NONE's, those that are GONE or at a MILL too", x.many(18), 10);
    refuses(x, ARGUMENT, "many(-1)", () -> x.many(-1));
    refuses(x, ARGUMENT, "many(19)", () -> x.many(19));
  }

  private static void promise27() {
    at = "promise 27";
    BoomSorters x = new BoomSorters();
    due("without any", x.meanSoaked(), 0.0);
    x.fell(0, 0, 2, 3, 9);
    x.fell(0, 0, 0, 3, 9);
    x.fell(0, 1, 0, 3, 9);
    x.roll(0);
    x.pass(0, 3);
    due("6, 3 and 0", x.meanSoaked(), 3.0);
    x.pass(0, 1);
    x.fell(0, 1, 0, 3, 9);
    due("8, 4, 0 and 0", x.meanSoaked(), 3.0);
    x.pass(0, 3);
    due("14 (SUNK), 7, 0 and 0", x.meanSoaked(), 5.25);
    x.fell(0, 1, 0, 3, 9);
    x.fell(0, 1, 0, 3, 9);
    due("not cut", x.meanSoaked(), 21.0 / 6);
    x.fell(0, 1, 0, 3, 9);
    due("not cut", x.meanSoaked(), 21.0 / 7);
    x.fell(0, 1, 0, 3, 9);
    due("not cut", x.meanSoaked(), 21.0 / 8);
    // Neither what is GONE nor what is at a MILL.
    BoomSorters y = jamOf(9, 0, 0);
    y.pass(0, 3);
    due("in a JAM", y.meanSoaked(), 3.0);
    y.blast(5);
    due("GONE", y.meanSoaked(), 0.0);
    BoomSorters z = boomOf(1, 1);
    z.sort(1);
    z.order(0, 3, 1, 9);
    z.raft(0, 0, 1);
    z.pass(0, 1);
    due("a RAFT counts: 1 and 2", z.meanSoaked(), 1.5);
    z.pass(0, 1);
    due("a MILL does not: 3", z.meanSoaked(), 3.0);
  }

  private static void promise28() {
    at = "promise 28";
    BoomSorters x = flowing();
    x.crew(3);
    for (int k = 0; k < 9; k++) {
      rolled(x, 1, k % 3, 3, 1);
    }
    x.fell(0, 4, 0, 3, 1);
    x.roll(4);
    x.boom(8);
    long before = x.digest();
    due("one DAY", x.boomIn(40, 1), 7);
    due("two DAYS: 8 have ROOM", x.boomIn(40, 2), 8);
    due("20 DAYS", x.boomIn(40, 20), 8);
    dueLong("nothing changed", x.digest(), before);
    due("what would be is what comes", x.pass(40, 2), 8);
    refuses(x, ARGUMENT, "melt -1", () -> x.boomIn(-1, 1));
    refuses(x, ARGUMENT, "melt 41", () -> x.boomIn(41, 1));
    refuses(x, ARGUMENT, "days 0", () -> x.boomIn(0, 0));
    refuses(x, ARGUMENT, "days 21", () -> x.boomIn(0, 21));
    BoomSorters y = new BoomSorters();
    rolled(y, 1, 0, 3, 1);
    due("no WATER", y.boomIn(0, 20), 0);
    due("WATER is there on the DAY 6", y.boomIn(40, 5), 0);
    due("WATER is there on the DAY 6", y.boomIn(40, 6), 1);
    // What leaves the BOOM by sinking makes ROOM.
    y.boom(1);
    y.gate(5, 0);
    y.pass(40, 20);
    y.gate(5, 3);
    y.pass(40, 1);
    due("in the BOOM", place(y, 0), BOOM);
    int heavy = y.fell(0, 0, 0, 3, 1);
    y.roll(0);
    due("it is too early", y.boomIn(40, 1), 0);
    due("the first one sank on the way", y.boomIn(40, 6), 1);
    due("and so it comes", y.pass(40, 6), 1);
    due("PLACE", place(y, heavy), BOOM);
  }

  private static void promise29() {
    at = "promise 29";
    BoomSorters x = new BoomSorters();
    x.gate(0, 0);
    x.rocks(0, 7);
    x.fell(0, 0, 0, 9, 9);
    x.roll(0);
    long before = x.digest();
    due("22 with 11 a DAY", x.freeIn(0, 11), 2);
    due("22 with 21 a DAY", x.freeIn(0, 21), 2);
    due("22 with 22 a DAY", x.freeIn(0, 22), 1);
    due("22 with 2 a DAY", x.freeIn(0, 2), 11);
    due("22 with 1 a DAY", x.freeIn(0, 1), NONE);
    due("another REACH", x.freeIn(1, 0), 0);
    dueLong("nothing changed", x.digest(), before);
    x.pass(2, 1);
    due("20 with 1 a DAY", x.freeIn(0, 1), 20);
    x.pass(0, 3);
    due("it sinks on the DAY 24", x.freeIn(0, 0), 20);
    refuses(x, INDEX, "reach -1", () -> x.freeIn(-1, 0));
    refuses(x, INDEX, "reach 6", () -> x.freeIn(6, 41));
    refuses(x, ARGUMENT, "melt -1", () -> x.freeIn(0, -1));
    refuses(x, ARGUMENT, "melt 41", () -> x.freeIn(5, 41));
    jamOfTheSameDay();
    BoomSorters y = new BoomSorters();
    y.rocks(0, 9);
    y.fell(0, 0, 2, 9, 9);
    y.fell(0, 0, 1, 9, 9);
    y.roll(0);
    due("a SPRUCE sinks on the DAY 18", y.freeIn(0, 0), 18);
    y.pass(0, 7);
    due("the OAK is SUNK", place(y, 0), SUNK);
    due("11 DAYS later", y.freeIn(0, 0), 11);
  }

  /** A JAM breaks, and the LOG that comes on the same DAY is the KEY of a new one: it counts as the DAY ends. */
  private static void jamOfTheSameDay() {
    BoomSorters x = new BoomSorters();
    x.rocks(1, 7);
    x.gate(1, 0);
    x.fell(0, 1, 0, 9, 1);
    x.fell(0, 0, 0, 9, 1);
    x.roll(1);
    x.roll(0);
    x.pass(3, 1);
    due("3 are too few for the JAM, and for the LOG", x.ofReach(1, 6), 0);
    // With 4 on the next DAY: 7 break it, the LOG 0 is AFLOAT (the GATE is shut), the LOG 1 comes: 9, 7 and 1.
    due("a new JAM as the DAY 1 ends; 11 break it on the DAY 2", x.freeIn(1, 4), 2);
    x.pass(4, 1);
    due("the new KEY", x.ofReach(1, 6), 1);
    due("the old one", place(x, 0), AFLOAT);
  }

  private static void promise30() {
    at = "promise 30";
    BoomSorters x = new BoomSorters();
    due("nothing comes: the smallest one", x.bestGate(5, 40, 20), 0);
    x.pass(40, 6);
    x.gate(5, 0);
    for (int k = 0; k < 6; k++) {
      rolled(x, 1, 0, 3, k < 4 ? 5 : 6);
    }
    long before = x.digest();
    // By 10 a DAY two of the GIRTH 5; by 20 five; by 30 all six.
    due("one DAY", x.bestGate(5, 40, 1), 3);
    due("two DAYS: 20 are enough", x.bestGate(5, 40, 2), 2);
    due("20 DAYS: the GIRTH 6 needs 20", x.bestGate(5, 40, 20), 2);
    dueLong("nothing changed", x.digest(), before);
    due("the GATE", x.ofReach(5, 1), 0);
    x.boom(2);
    due("ROOM for two: 10 are enough", x.bestGate(5, 40, 1), 1);
    x.boom(0);
    due("no ROOM", x.bestGate(5, 40, 20), 0);
    x.boom(40);
    for (int k = 0; k < 3; k++) {
      rolled(x, 1, 0, 3, 1);
    }
    x.pass(40, 1);
    due("WATER for more", x.ofReach(5, 0), 60);
    due("no GATE is above 3", x.bestGate(5, 40, 1), 3);
    refuses(x, INDEX, "reach -1", () -> x.bestGate(-1, 0, 1));
    refuses(x, INDEX, "reach 6", () -> x.bestGate(6, 41, 0));
    refuses(x, ARGUMENT, "melt -1", () -> x.bestGate(0, -1, 1));
    refuses(x, ARGUMENT, "melt 41", () -> x.bestGate(0, 41, 1));
    refuses(x, ARGUMENT, "days 0", () -> x.bestGate(0, 0, 0));
    refuses(x, ARGUMENT, "days 21", () -> x.bestGate(0, 0, 21));
    // An upper GATE that is shut keeps the LOGS back, if the one asked for is another.
    BoomSorters y = flowing();
    y.fell(0, 4, 0, 3, 1);
    y.roll(4);
    y.gate(4, 0);
    due("the GATE of 4", y.bestGate(4, 40, 2), 1);
    due("the GATE of 5 alone does not help", y.bestGate(5, 40, 2), 0);
  }

  private static void promise31() {
    at = "promise 31";
    BoomSorters x = boomOf(1, 2, 0, 1);
    x.sort(2);
    x.crew(3);
    x.order(0, 3, 1, 9);
    x.raft(0, 0, 1);
    x.rocks(4, 9);
    x.fell(0, 4, 0, 3, 1);
    x.fell(0, 4, 0, 6, 1);
    x.roll(4);
    due("there is a JAM", place(x, 5), JAM);
    dueLong("digest", x.digest(), digestByItsWords(x, 5));
    x.pass(13, 3);
    dueLong("digest later", x.digest(), digestByItsWords(x, 5));
    BoomSorters y = new BoomSorters();
    dueLong("digest without LOGS", y.digest(), digestByItsWords(y, NONE));
    digestOfForecasts();
  }

  /** States in which each forecast of the digest would be another one with any other argument. */
  private static void digestOfForecasts() {
    // JAMS that need 20 and 42 of WATER, behind a shut GATE.
    int[][] jams = {{8, 0}, {9, 5}};
    for (int[] jam : jams) {
      BoomSorters x = new BoomSorters();
      x.gate(0, 0);
      x.rocks(0, 9);
      x.fell(0, 0, 0, 7, jam[0]);
      for (int k = 0; k < jam[1]; k++) {
        x.fell(0, 0, 0, 3, 1);
      }
      x.roll(0);
      due("freeIn", x.freeIn(0, 20), jam[1] == 0 ? 1 : 3);
      dueLong("digest with a JAM", x.digest(), digestByItsWords(x, jam[1]));
    }
    // The WATER of the first DAY carries 5 LOGS out of the REACH 5 on the DAY 6: 20 / 4, and 23 / 4.
    for (int ahead = 0; ahead <= 3; ahead += 3) {
      BoomSorters x = new BoomSorters();
      x.gate(0, 0);
      x.pass(ahead, 1);
      x.gate(0, 3);
      for (int k = 0; k < 12; k++) {
        x.fell(0, 5, 0, 3, 1);
      }
      x.roll(5);
      due("boomIn", x.boomIn(20, 6), 5);
      dueLong("digest with WATER to come", x.digest(), digestByItsWords(x, 11));
    }
    // A GATE of 1 carries 2 LOGS a DAY: 8 of them in 4 DAYS.
    for (int many = 8; many <= 9; many++) {
      BoomSorters x = new BoomSorters();
      x.gate(5, 0);
      x.pass(40, 20);
      for (int k = 0; k < many; k++) {
        x.fell(0, 5, 0, 3, 1);
      }
      x.roll(5);
      due("bestGate", x.bestGate(5, 10, 4), many - 7);
      dueLong("digest with a GATE to choose", x.digest(), digestByItsWords(x, many - 1));
    }
  }

  private static long digestByItsWords(BoomSorters x, int lastLog) {
    long[] d = {58191};
    for (int what = 0; what < 19; what++) {
      put(d, x.many(what));
    }
    for (int owner = 0; owner < 4; owner++) {
      for (int what = 0; what < 8; what++) {
        put(d, x.ofOwner(owner, what));
      }
    }
    for (int reach = 0; reach < 6; reach++) {
      for (int what = 0; what < 10; what++) {
        put(d, x.ofReach(reach, what));
      }
      put(d, x.row(reach, 0));
      put(d, x.row(reach, 1));
      put(d, x.row(reach, 2));
      put(d, x.freeIn(reach, 20));
    }
    for (int log = 0; log <= lastLog; log++) {
      for (int what = 0; what < 9; what++) {
        put(d, x.ofLog(log, what));
      }
      put(d, x.scale(log, 0));
      put(d, x.scale(log, 1));
      put(d, x.scale(log, 2));
    }
    for (int k = 0; k < 4; k++) {
      put(d, x.row(NONE, k));
    }
    put(d, x.boomIn(20, 6));
    put(d, x.bestGate(5, 10, 4));
    return d[0];
  }

  private static void put(long[] d, long v) {
    d[0] = d[0] * 31 + v;
  }

  /** The 512 calls that the document grants, the dearest ones among them. */
  private static void fullUse() {
    at = "512 calls";
    BoomSorters x = new BoomSorters();
    x.crew(20);
    x.mark(0, 1);
    for (int k = 0; k < 40; k++) {
      x.fell(0, k % 6, k % 3, 9, 9);
    }
    for (int k = 0; k < 6; k++) {
      x.roll(k);
    }
    for (int k = 0; k < 463; k++) {
      if (k % 4 == 3) {
        x.digest();
      } else {
        x.pass(40, 20);
      }
    }
    due("NOW", x.many(0), 348 * 20);
  }
}
