import java.math.BigInteger;

/**
 * Each sentence of the document that names a boundary case, with a test of its own: just below the bound, at it, just
 * above it; what is empty, what is full, what wraps around. What is refused stands in RefusalTests.
 */
public final class BoundaryTests {
  private static final int NONE = -1;
  private static final int WOODS = 0;
  private static final int AFLOAT = 1;
  private static final int JAM = 2;
  private static final int SHORE = 3;
  private static final int SUNK = 4;
  private static final int BOOM = 5;
  private static final int GAP = 6;
  private static final int POOL = 7;
  private static final int RAFT = 8;
  private static final int MILL = 9;
  private static final int GONE = 10;

  private static final int PINE = 0;
  private static final int SPRUCE = 1;
  private static final int OAK = 2;

  private static int tests = 0;
  private static int wrong = 0;
  private static String at = "";

  private interface Body {
    void run();
  }

  /** Makes an object anew, each time alike. */
  private interface Maker {
    BoomSorters make();
  }

  public static void main(String[] args) {
    logsAndMarks();
    water();
    driving();
    soaking();
    coming();
    crewAndJams();
    boomAndGaps();
    settling();
    ordersAndRafts();
    raising();
    asking();
    forecasts();
    checksum();
    System.out.println(wrong == 0 ? tests + " tests: all bounds hold" : wrong + " answers are not as due");
    if (wrong != 0) {
      System.exit(1);
    }
  }

  private static void logsAndMarks() {
    test("promise 1: creates a river without WATER and LOGS", BoundaryTests::newRiver);
    test("1: a MARK is 0 at first: none", BoundaryTests::firstMark);
    test("1: MONEY is 0 at first; it can be below 0", BoundaryTests::moneyBelowZero);
    test("1: the STROKE k is in it, if it has the bit 2^k, 0 to 5", BoundaryTests::strokesByBits);
    test("1: LOGS: at most 40 ever, numbered from 0", BoundaryTests::fortyLogs);
    test("1: KIND 0 to 2, LENGTH 3 to 9, GIRTH 1 to 9", BoundaryTests::leastAndGreatestLog);
    test("1: WHOSE: that one, if there is just one", BoundaryTests::whoseByAllStrokes);
    test("1: WHOSE: NONE, if there are several", BoundaryTests::whoseOfSeveral);
    test("1: WHOSE: NONE, if it has no STROKES", BoundaryTests::whoseWithoutStrokes);
    test("1: what is AFLOAT, in a JAM, the BOOM, a GAP, the POOL is in order, as it came there",
        BoundaryTests::asItCame);
    test("1: SCALE by the rule 0, the least and the greatest", BoundaryTests::scaleByRule0);
    test("1: SCALE by the rule 1, divided by 8, rounded down", BoundaryTests::scaleByRule1);
    test("1: SCALE by the rule 2: GIRTH less 2, 0 at least", BoundaryTests::scaleByRule2);
    test("1: SCALE by the rule 2: half, if it is SOAKED by 10 or more", BoundaryTests::scaleOfSoaked);
    test("1: SCALE by the rule 2: half, rounded down", BoundaryTests::halfOfAnOddScale);
  }

  private static void water() {
    test("2: WATER, ROCKS are 0, a GATE is 3 at first", BoundaryTests::reachesAtFirst);
    test("2: a GATE of 0 to 3, ROCKS of 0 to 9", BoundaryTests::gatesAndRocks);
    test("2: NOW is 1 more (0 at first)", BoundaryTests::now);
    test("2: WATER of the REACH 0 is MELT more, 0 to 40", BoundaryTests::melt);
    test("2: FLOW is 10 times its GATE, but no more than its WATER", BoundaryTests::flowBounds);
    test("2: that goes to the next REACH below (of 5: away), from 5 up to 0", BoundaryTests::waterGoesOn);
    test("2: a JAM breaks, if WATER is no less than 4 for each of its LOGS and 2 times the GIRTH of its KEY",
        BoundaryTests::waterBreaksJam);
    test("2: it is the GIRTH of its KEY alone", BoundaryTests::girthOfKeyAlone);
    test("2: it is the WATER that FLOW has left", BoundaryTests::waterBehindFlow);
    test("2: the WATER of a REACH below, with what came that DAY", BoundaryTests::waterBreaksJamBelow);
  }

  private static void driving() {
    test("2: those whose GIRTH, 2 times, is no more than its FLOW go on", BoundaryTests::girthAndFlow);
    test("2: at most FLOW / 4 of them", BoundaryTests::quarterOfFlow);
    test("2: in order; one that stays does not count", BoundaryTests::thickOnesStay);
    test("2: from 5 up to 0: a LOG goes one REACH a DAY", BoundaryTests::oneReachADay);
    test("2: a JAM that breaks goes on that DAY", BoundaryTests::brokenJamGoesOn);
    test("2: the BOOM has ROOM for 20 LOGS at first", BoundaryTests::roomAtFirst);
    test("2: in the BOOM, if there is ROOM, otherwise on the SHORE of 5", BoundaryTests::roomBounds);
    test("promise 7: ROOM of 0 to 40", BoundaryTests::leastAndGreatestRoom);
    test("promise 7: LOGS that are there stay", BoundaryTests::roomBelowWhatIsThere);
    test("promise 11: 1 to 20 DAYS; how many LOGS came into the BOOM", BoundaryTests::cameIntoTheBoom);
  }

  private static void soaking() {
    test("2: SOAKED 1 more (an OAK 2)", BoundaryTests::soakedEachDay);
    test("2: with 24 (PINE), 18 (SPRUCE) or 14 (OAK) it is SUNK", BoundaryTests::sinkBounds);
    test("2: or more: an OAK of 13, then 15", BoundaryTests::oakBeyondItsBound);
    test("2: SUNK at its REACH", BoundaryTests::sunkAtItsReach);
    test("2: SUNK, otherwise at 5", BoundaryTests::sunkAtFive);
    test("2: on the SHORE it is SOAKED 1 less (0 at least)", BoundaryTests::dryOnTheShore);
    test("2: what is elsewhere is not SOAKED", BoundaryTests::notSoaked);
    test("2: a LOG that comes into the BOOM SOAKED by one less than it bears is SUNK", BoundaryTests::cameAndSank);
  }

  private static void coming() {
    test("2: if there is a JAM, it is in that, at the end", BoundaryTests::comesToAJam);
    test("2: with ROCKS of 5 or more, it loses a STROKE", BoundaryTests::rocksOfFive);
    test("2: the smallest one of its STROKES", BoundaryTests::smallestStroke);
    test("2: LENGTH, ROCKS, and how many are AFLOAT are 16 or more together", BoundaryTests::sixteen);
    test("2: however many ROCKS there are (also none)", BoundaryTests::sixteenWithoutRocks);
    test("2: those in a JAM, on the SHORE, or SUNK there are not AFLOAT there", BoundaryTests::onlyAfloatCounts);
    test("2: if a JAM breaks, its LOGS are AFLOAT there, in order, behind the others", BoundaryTests::behindTheOthers);
    test("2: if its KEY is gone otherwise, the next one is its KEY", BoundaryTests::nextKey);
    test("2: a JAM whose last LOG sinks is none", BoundaryTests::lastOfAJamSinks);
    test("promise 10: all LOGS of the WOODS at a REACH, by their numbers; how many", BoundaryTests::rollBounds);
  }

  private static void crewAndJams() {
    test("3: the CREW (0 to 20; 0 at first) and COSTS (0 at first)", BoundaryTests::crewAndCosts);
    test("3: the CREW has to be no less than the GIRTH and a fourth of the LOGS", BoundaryTests::pullBounds);
    test("3: to BLAST costs 8; the KEY is GONE", BoundaryTests::blastCosts);
    test("3: each other one loses the greatest one of its STROKES", BoundaryTests::greatestStroke);
    test("3: to BLAST a JAM of its KEY alone", BoundaryTests::blastOfOne);
    test("3: to PUSH costs 1, by the ROCKS of its REACH", BoundaryTests::pushBounds);
    test("1, 3: 40 LOGS in one JAM", BoundaryTests::fortyInAJam);
  }

  private static void boomAndGaps() {
    test("3: a STORM: so many LOGS, from the last one on", BoundaryTests::stormBounds);
    test("3: a STORM over an empty BOOM", BoundaryTests::stormOverEmptyBoom);
    test("promise 16: SORTS (all, if there are fewer); costs 1 for each", BoundaryTests::sortBounds);
    test("3: to SORT an empty BOOM costs nothing", BoundaryTests::sortOfEmptyBoom);
    test("3: otherwise in the POOL", BoundaryTests::sortIntoPool);
    test("3: to SHARE an empty POOL", BoundaryTests::shareOfEmptyPool);
    test("3: the OWNER with the greatest SHARE, of several the first one", BoundaryTests::firstOfSeveral);
    test("3: less 30 for each that it got of the POOL before", BoundaryTests::thirtyLess);
    test("3: both each time anew, also for a LOG that comes again", BoundaryTests::comesAgain);
    test("1, 3: 40 LOGS in the BOOM, and in one GAP", BoundaryTests::fortyInAGap);
    test("1, 3: 40 LOGS in the POOL", BoundaryTests::fortyInThePool);
  }

  private static void settling() {
    test("3: to SETTLE: nothing, if that is 0: no LOGS", BoundaryTests::settleWithoutLogs);
    test("3: to SETTLE: nothing, if that is 0: a SCALE of 0", BoundaryTests::settleWithoutScale);
    test("3: to SETTLE without COSTS", BoundaryTests::settleWithoutCosts);
    test("3: COSTS as they are ahead of the first one", BoundaryTests::settleAhead);
    test("3: to SETTLE is rounded down for each; the rest is left", BoundaryTests::settleRoundedDown);
    test("3: to SETTLE: one OWNER alone pays all", BoundaryTests::settleAlone);
    test("3: to SETTLE: LOGS in its GAP, its RAFTS, or that came to MILLS, no others", BoundaryTests::settleWhat);
  }

  private static void ordersAndRafts() {
    test("4: ORDERS: at most 6 ever, numbered from 0", BoundaryTests::sixOrders);
    test("4: the first LOGS that have that LENGTH, or more", BoundaryTests::leastLength);
    test("4: the first LOGS of that KIND", BoundaryTests::kindOfOrder);
    test("4: at most so many as are told (6 at most)", BoundaryTests::manyOfRaft);
    test("4: due 2 DAYS later, and 1 more for each 3 of its LOGS", BoundaryTests::dueOfRaft);
    test("4: half of that, if NOW is above the DAY", BoundaryTests::lateRaft);
    test("promise 9: in 0 to 60 DAYS", BoundaryTests::sixtyDays);
    test("4: half of each by itself, rounded down", BoundaryTests::halfOfEach);
    test("4: a PRICE of 1 to 9", BoundaryTests::leastAndGreatestPrice);
    test("4: two RAFTS that are due on one DAY, and one that is due later", BoundaryTests::severalRafts);
  }

  private static void raising() {
    test("4: an OWNER pays 4: on the SHORE of its REACH, SOAKED 0", BoundaryTests::raiseBounds);
    test("4: if it was SUNK 10 DAYS ago or earlier", BoundaryTests::sunkTenDaysAgo);
    test("4: if it has no STROKES", BoundaryTests::raisedWithoutStrokes);
    test("4: RAISED by an OWNER without a MARK", BoundaryTests::raisedByOneWithoutMark);
    test("4: it was SUNK when it SANK last", BoundaryTests::sankLast);
  }

  private static void asking() {
    test("promise 21: the first one of these (NONE)", BoundaryTests::firstOfGap);
    test("promise 22: FLOW of the latest DAY (0), its KEY (NONE)", BoundaryTests::flowOfLatestDay);
    test("promise 23: its REACH (NONE, if it is at none)", BoundaryTests::reachOfLog);
    test("promise 23: the DAY on which it SANK last (NONE)", BoundaryTests::sankOn);
    test("promise 24: the LOG k of those that are AFLOAT; NONE without one", BoundaryTests::rowAfloat);
    test("promise 24: the LOG k of the BOOM; NONE without one", BoundaryTests::rowOfBoom);
    test("promise 26: without LOGS, RAFTS, ORDERS all are 0", BoundaryTests::manyOfNothing);
    test("promise 26: RAFTS that are not due yet", BoundaryTests::raftsNotDue);
    test("promise 26: how many LOGS are NONE's", BoundaryTests::logsOfNone);
    test("promise 27: the mean; 0 without any", BoundaryTests::meanWithoutAny);
    test("promise 27: not GONE or at a MILL; not cut", BoundaryTests::meanNotCut);
  }

  private static void forecasts() {
    test("promise 28: how many would come in 1 to 20 DAYS", BoundaryTests::boomInBounds);
    test("promise 28: without LOGS, WATER, or ROOM none comes", BoundaryTests::boomInOfNothing);
    test("promise 29: 0, if there is none", BoundaryTests::freeInWithoutJam);
    test("promise 29: NONE, if not within 20", BoundaryTests::freeInBounds);
    test("promise 29: as that DAY ends: its last LOG sinks", BoundaryTests::freeInBySinking);
    test("promise 30: of several the smallest one", BoundaryTests::bestGateOfSeveral);
    test("promise 30: the GATE with which most would come, 0 to 3", BoundaryTests::bestGateBounds);
    test("promise 30: in 1 to 20 DAYS", BoundaryTests::bestGateInDays);
    test("28 to 31: what would be changes nothing, with 40 LOGS", BoundaryTests::forecastsOfForty);
  }

  private static void checksum() {
    test("promise 31: starts with 58191; without LOGS there is none of ofLog and scale",
        BoundaryTests::digestOfNothing);
    test("promise 31: wraps around as a 64-bit integer", BoundaryTests::digestWrapsAround);
    test("promise 31: LOG by LOG, 1 to 40 of them", BoundaryTests::digestOfLogs);
    test("promise 31: freeIn() of 20", BoundaryTests::digestOfFreeIn);
    test("promise 31: boomIn() of 20 and 6", BoundaryTests::digestOfBoomIn);
    test("promise 31: bestGate() of 5, 10 and 4", BoundaryTests::digestOfBestGate);
    test("what it is: at most 512 calls: the 512th", BoundaryTests::call512);
  }

  // ---- helpers

  private static void test(String sentence, Body body) {
    at = sentence;
    tests++;
    try {
      body.run();
    } catch (RuntimeException e) {
      wrong++;
      System.out.println(at + ": ended by " + e);
    }
  }

  private static void due(String what, double got, double want) {
    if (got != want) {
      wrong++;
      System.out.println(at + ": " + what + " answered " + got + ", due is " + want);
    }
  }

  private static int place(BoomSorters x, int log) {
    return x.ofLog(log, 0);
  }

  /** Fells a LOG with these STROKES; answers its number. */
  private static int felled(BoomSorters x, int reach, int strokes, int kind, int length, int girth) {
    int log = x.fell(0, reach, kind, length, girth);
    x.hammer(log, strokes);
    return log;
  }

  private static int rolled(BoomSorters x, int reach, int strokes, int kind, int length, int girth) {
    int log = felled(x, reach, strokes, kind, length, girth);
    x.roll(reach);
    return log;
  }

  /** So many PINES of 3 times 1, with the MARK of the OWNER 0, AFLOAT at a REACH (13 at most without ROCKS). */
  private static void rolledThin(BoomSorters x, int reach, int many) {
    for (int k = 0; k < many; k++) {
      x.fell(0, reach, PINE, 3, 1);
    }
    x.roll(reach);
  }

  /** A JAM at a REACH whose GATE is shut: its KEY has the GIRTH; the others are thin. No LOG has STROKES. */
  private static BoomSorters jammed(int reach, int girth, int others) {
    BoomSorters x = new BoomSorters();
    x.gate(reach, 0);
    addJam(x, reach, girth, others);
    return x;
  }

  private static void addJam(BoomSorters x, int reach, int girth, int others) {
    x.rocks(reach, 9);
    x.fell(0, reach, PINE, 7, girth);
    for (int k = 0; k < others; k++) {
      x.fell(0, reach, PINE, 3, 1);
    }
    x.roll(reach);
    due("LOGS in the JAM", x.ofReach(reach, 5), others + 1);
  }

  /** A river with MARKS 1, 2, 4, 8; with a MELT of 30 the FLOW of each REACH is 30 on each further DAY. NOW is 6. */
  private static BoomSorters flowing() {
    BoomSorters x = new BoomSorters();
    for (int owner = 0; owner < 4; owner++) {
      x.mark(owner, 1 << owner);
    }
    x.pass(30, 6);
    return x;
  }

  /** A flowing river with LOGS in its BOOM, seven at most: all PINE of 5 times 2, SOAKED by 1, with these STROKES. */
  private static BoomSorters boomOf(int... strokes) {
    BoomSorters x = flowing();
    for (int s : strokes) {
      rolled(x, 5, s, PINE, 5, 2);
    }
    due("LOGS that came into the BOOM", x.pass(30, 1), strokes.length);
    return x;
  }

  /** A flowing river with so many LOGS of 3 times 1 in its BOOM, those of the OWNER. */
  private static BoomSorters boomOfMany(int many, int owner) {
    BoomSorters x = flowing();
    x.boom(40);
    for (int log = 0; log < many; log++) {
      x.fell(owner, 5, PINE, 3, 1);
      if (log % 7 == 6 || log == many - 1) {
        x.roll(5);
        x.pass(30, 1);
      }
    }
    due("LOGS in the BOOM", x.many(6), many);
    return x;
  }

  /** An OAK that SANK at a REACH on the DAY 7; NOW is 7. */
  private static BoomSorters sunkOak(int reach, int strokes) {
    BoomSorters x = new BoomSorters();
    rolled(x, reach, strokes, OAK, 3, 1);
    x.pass(0, 7);
    due("it is SUNK", place(x, 0), SUNK);
    return x;
  }

  // ---- 1: logs and marks

  private static void newRiver() {
    BoomSorters x = new BoomSorters();
    due("WATER of all REACHES", x.many(17), 0);
    for (int place = WOODS; place <= GONE; place++) {
      due("LOGS with the PLACE " + place, x.many(1 + place), 0);
    }
    due("the first LOG's number", x.fell(0, 0, PINE, 3, 1), 0);
    due("the first ORDER's number", x.order(PINE, 3, 1, 0), 0);
  }

  private static void firstMark() {
    BoomSorters x = new BoomSorters();
    for (int owner = 0; owner < 4; owner++) {
      due("MARK", x.ofOwner(owner, 0), 0);
      int log = x.fell(owner, 0, PINE, 3, 1);
      due("STROKES of a LOG of one without a MARK", x.ofLog(log, 5), 0);
      due("the MARK before", x.mark(owner, 63), 0);
      due("the MARK", x.ofOwner(owner, 0), 63);
      due("the MARK before", x.mark(owner, 0), 63);
      due("the MARK before", x.mark(owner, 1), 0);
      x.mark(owner, 0);
    }
    x.hammer(0, 1);
    due("a MARK of 0 has no STROKE: WHOSE", x.ofLog(0, 7), NONE);
  }

  private static void moneyBelowZero() {
    BoomSorters x = sunkOak(0, 1);
    for (int owner = 0; owner < 4; owner++) {
      due("MONEY at first", x.ofOwner(owner, 1), 0);
    }
    x.raise(0, 3);
    due("MONEY of the OWNER who paid", x.ofOwner(3, 1), -4);
    due("MONEY of another", x.ofOwner(2, 1), 0);
    BoomSorters y = boomOf(1);
    y.sort(1);
    due("COSTS left", y.settle(0), 0);
    due("MONEY", y.ofOwner(0, 1), -1);
  }

  private static void strokesByBits() {
    BoomSorters x = new BoomSorters();
    x.fell(0, 0, PINE, 3, 1);
    for (int k = 0; k <= 5; k++) {
      x.hammer(0, 1 << k);
      x.mark(2, 1 << k);
      due("WHOSE with the STROKE " + k + " alone", x.ofLog(0, 7), 2);
      x.mark(2, 63);
      due("WHOSE with all STROKES in the MARK", x.ofLog(0, 7), 2);
      x.mark(2, 63 - (1 << k));
      due("WHOSE without the STROKE " + k + " in the MARK", x.ofLog(0, 7), NONE);
    }
    due("all STROKES", x.hammer(0, 63), 32);
    due("all STROKES", x.ofLog(0, 5), 63);
    x.mark(1, 63);
    due("a LOG with a MARK of 63", x.ofLog(x.fell(1, 0, PINE, 3, 1), 5), 63);
  }

  private static void fortyLogs() {
    BoomSorters x = new BoomSorters();
    for (int log = 0; log < 40; log++) {
      due("its number", x.fell(0, 5, PINE, 3, 1), log);
      due("LOGS in the WOODS", x.ofReach(5, 9), log + 1);
    }
    due("the LOG 39", place(x, 39), WOODS);
    due("roll", x.roll(5), 40);
    due("AFLOAT: 13, then 3 and 13 are 16", x.ofReach(5, 4), 13);
    due("in the JAM", x.ofReach(5, 5), 27);
    due("its KEY", x.ofReach(5, 6), 13);
  }

  private static void leastAndGreatestLog() {
    BoomSorters x = new BoomSorters();
    int[][] logs = {{0, 3, 1}, {2, 9, 9}, {1, 3, 9}, {1, 9, 1}, {0, 4, 2}, {2, 8, 8}};
    for (int[] log : logs) {
      int number = x.fell(3, 5, log[0], log[1], log[2]);
      due("KIND", x.ofLog(number, 2), log[0]);
      due("LENGTH", x.ofLog(number, 3), log[1]);
      due("GIRTH", x.ofLog(number, 4), log[2]);
      due("SOAKED at first", x.ofLog(number, 6), 0);
      due("PLACE", place(x, number), WOODS);
      due("REACH", x.ofLog(number, 1), 5);
    }
    due("REACH 0", x.ofLog(x.fell(0, 0, PINE, 3, 1), 1), 0);
  }

  private static void whoseByAllStrokes() {
    BoomSorters x = new BoomSorters();
    x.fell(0, 0, PINE, 3, 1);
    x.hammer(0, 6);
    int[][] cases = {{6, 0}, {7, 0}, {14, 0}, {63, 0}, {4, NONE}, {2, NONE}, {5, NONE}, {57, NONE}, {0, NONE}};
    for (int owner = 0; owner < 4; owner++) {
      for (int[] c : cases) {
        x.mark(owner, c[0]);
        due("WHOSE with the MARK " + c[0] + " of " + owner, x.ofLog(0, 7), c[1] == NONE ? NONE : owner);
      }
    }
  }

  private static void whoseOfSeveral() {
    for (int first = 0; first < 4; first++) {
      for (int second = first + 1; second < 4; second++) {
        BoomSorters x = new BoomSorters();
        x.fell(0, 0, PINE, 3, 1);
        x.hammer(0, 8);
        x.mark(first, 8);
        due("WHOSE of one", x.ofLog(0, 7), first);
        x.mark(second, 24);
        due("WHOSE of two", x.ofLog(0, 7), NONE);
        x.mark(first, 16);
        due("WHOSE of the other one", x.ofLog(0, 7), second);
        x.hammer(0, 16);
        due("WHOSE of two again", x.ofLog(0, 7), NONE);
      }
    }
    BoomSorters y = new BoomSorters();
    y.fell(0, 0, PINE, 3, 1);
    y.hammer(0, 1);
    for (int owner = 0; owner < 4; owner++) {
      y.mark(owner, 1);
      due("WHOSE of " + (owner + 1), y.ofLog(0, 7), owner == 0 ? 0 : NONE);
    }
  }

  private static void whoseWithoutStrokes() {
    BoomSorters x = new BoomSorters();
    x.fell(0, 0, PINE, 3, 1);
    due("WHOSE without any MARK", x.ofLog(0, 7), NONE);
    x.mark(2, 63);
    due("WHOSE with one MARK", x.ofLog(0, 7), NONE);
    x.hammer(0, 1);
    due("WHOSE with a STROKE", x.ofLog(0, 7), 2);
    x.mark(0, 1);
    x.mark(1, 1);
    x.mark(3, 1);
    x.hammer(0, 0);
    due("WHOSE with four MARKS", x.ofLog(0, 7), NONE);
  }

  /** The LOG 1 is ahead of the LOG 0 everywhere. */
  private static void asItCame() {
    for (int strokes = 0; strokes <= 1; strokes++) {
      BoomSorters x = flowing();
      rolled(x, 4, strokes, PINE, 3, 1);
      rolled(x, 5, strokes, PINE, 3, 1);
      x.gate(5, 0);
      x.pass(30, 1);
      due("AFLOAT", x.row(5, 0), 1);
      due("AFLOAT", x.row(5, 1), 0);
      x.gate(5, 3);
      x.pass(30, 1);
      due("in the BOOM", x.row(NONE, 0), 1);
      due("in the BOOM", x.row(NONE, 1), 0);
      x.sort(2);
      x.share();
      x.order(PINE, 3, 1, 60);
      due("in the GAP, or the POOL", x.ofOwner(0, 3), 1);
      due("a RAFT", x.raft(0, 0, 1), 1);
      due("a RAFT of the first one", place(x, 1), RAFT);
      due("the other one", x.ofOwner(strokes == 1 ? 0 : 1, 3), 0);
    }
    BoomSorters y = new BoomSorters();
    y.gate(1, 0);
    y.rocks(1, 9);
    y.fell(0, 0, PINE, 9, 1);
    rolled(y, 1, 0, PINE, 9, 9);
    y.roll(0);
    y.pass(4, 1);
    due("the KEY", y.ofReach(1, 6), 1);
    due("in the JAM", place(y, 0), JAM);
    y.pass(22, 1);
    due("it broke: the first one", y.row(1, 0), 1);
    due("it broke: the second one", y.row(1, 1), 0);
  }

  private static void scaleByRule0() {
    scalesAre(0, new int[][] {{3, 1, 3}, {9, 1, 9}, {3, 9, 27}, {9, 9, 81}, {7, 4, 28}});
  }

  private static void scaleByRule1() {
    scalesAre(1, new int[][] {
        {7, 1, 0}, {8, 1, 1}, {9, 1, 1}, {3, 2, 1}, {4, 2, 2}, {5, 2, 2}, {3, 3, 3}, {5, 5, 15}, {3, 1, 0},
        {9, 9, 91}});
  }

  private static void scaleByRule2() {
    scalesAre(2, new int[][] {{9, 1, 0}, {9, 2, 0}, {9, 3, 9}, {3, 3, 3}, {3, 1, 0}, {9, 9, 63}});
  }

  private static void scalesAre(int rule, int[][] cases) {
    BoomSorters x = new BoomSorters();
    for (int[] c : cases) {
      int log = x.fell(0, 0, PINE, c[0], c[1]);
      due("SCALE of " + c[0] + " by " + c[1], x.scale(log, rule), c[2]);
    }
  }

  private static void scaleOfSoaked() {
    for (int kind = PINE; kind <= OAK; kind++) {
      BoomSorters x = new BoomSorters();
      rolled(x, 0, 0, kind, 5, 6);
      for (int soaked = 0; soaked < 13; soaked += kind == OAK ? 2 : 1) {
        due("SOAKED", x.ofLog(0, 6), soaked);
        due("SCALE by 2, SOAKED by " + soaked, x.scale(0, 2), soaked < 10 ? 20 : 10);
        due("SCALE by 0", x.scale(0, 0), 30);
        due("SCALE by 1", x.scale(0, 1), 22);
        x.pass(0, 1);
      }
    }
  }

  private static void halfOfAnOddScale() {
    BoomSorters x = new BoomSorters();
    x.fell(0, 0, PINE, 3, 3);
    x.fell(0, 0, PINE, 9, 9);
    x.fell(0, 0, PINE, 9, 2);
    x.roll(0);
    x.pass(0, 10);
    due("half of 3", x.scale(0, 2), 1);
    due("half of 63", x.scale(1, 2), 31);
    due("half of 0", x.scale(2, 2), 0);
  }

  // ---- 2: the river

  private static void reachesAtFirst() {
    BoomSorters x = new BoomSorters();
    for (int reach = 0; reach <= 5; reach++) {
      due("WATER", x.ofReach(reach, 0), 0);
      due("GATE", x.ofReach(reach, 1), 3);
      due("ROCKS", x.ofReach(reach, 2), 0);
      due("the GATE before", x.gate(reach, 3), 3);
      due("the ROCKS before", x.rocks(reach, 0), 0);
    }
  }

  private static void gatesAndRocks() {
    BoomSorters x = new BoomSorters();
    for (int reach = 0; reach <= 5; reach++) {
      int before = 3;
      for (int gate : new int[] {0, 1, 3, 2, 0}) {
        due("the GATE before", x.gate(reach, gate), before);
        due("the GATE", x.ofReach(reach, 1), gate);
        before = gate;
      }
      before = 0;
      for (int rocks : new int[] {9, 0, 8, 1}) {
        due("the ROCKS before", x.rocks(reach, rocks), before);
        due("the ROCKS", x.ofReach(reach, 2), rocks);
        before = rocks;
      }
    }
  }

  private static void now() {
    BoomSorters x = new BoomSorters();
    due("NOW at first", x.many(0), 0);
    x.pass(0, 1);
    due("NOW behind a DAY", x.many(0), 1);
    x.pass(40, 20);
    due("NOW behind 20 more", x.many(0), 21);
    x.pass(0, 2);
    due("NOW behind 2 more", x.many(0), 23);
  }

  private static void melt() {
    for (int melt : new int[] {0, 1, 39, 40}) {
      BoomSorters x = new BoomSorters();
      x.gate(0, 0);
      x.pass(melt, 1);
      due("WATER of 0 by a MELT of " + melt, x.ofReach(0, 0), melt);
      x.pass(melt, 20);
      due("WATER of 0 behind 20 DAYS more", x.ofReach(0, 0), 21 * melt);
      due("WATER of all", x.many(17), 21 * melt);
    }
  }

  private static void flowBounds() {
    for (int reach = 0; reach <= 5; reach++) {
      for (int gate = 0; gate <= 3; gate++) {
        for (int water : new int[] {0, 10 * gate - 1, 10 * gate, 10 * gate + 1}) {
          if (water >= 0) {
            oneFlow(reach, gate, water);
          }
        }
      }
    }
  }

  private static void oneFlow(int reach, int gate, int water) {
    BoomSorters x = new BoomSorters();
    x.gate(reach, 0);
    x.pass(Math.min(water, 30), 1);
    x.pass(Math.max(water - 30, 0), 1);
    x.pass(0, 6);
    String what = "WATER " + water + ", GATE " + gate + " of " + reach + ": ";
    due(what + "the WATER that stands there", x.ofReach(reach, 0), water);
    due(what + "no FLOW of a GATE of 0", x.ofReach(reach, 3), 0);
    x.gate(reach, gate);
    x.pass(0, 1);
    int flow = Math.min(10 * gate, water);
    due(what + "FLOW", x.ofReach(reach, 3), flow);
    due(what + "what is left", x.ofReach(reach, 0), water - flow);
    if (reach < 5) {
      due(what + "WATER of the next REACH", x.ofReach(reach + 1, 0), flow);
      due(what + "WATER of all", x.many(17), water);
    } else {
      due(what + "it is away", x.many(17), water - flow);
    }
  }

  private static void waterGoesOn() {
    BoomSorters x = new BoomSorters();
    x.pass(30, 1);
    for (int reach = 1; reach <= 5; reach++) {
      for (int other = 0; other <= 5; other++) {
        due("behind the DAY " + reach + ", WATER of " + other, x.ofReach(other, 0), other == reach ? 30 : 0);
        due("behind the DAY " + reach + ", FLOW of " + other, x.ofReach(other, 3), other == reach - 1 ? 30 : 0);
      }
      x.pass(0, 1);
    }
    due("away", x.many(17), 0);
    due("FLOW of 5", x.ofReach(5, 3), 30);
  }

  private static void waterBreaksJam() {
    for (int girth = 1; girth <= 9; girth++) {
      for (int logs = 1; logs <= 4; logs++) {
        int need = 4 * logs + 2 * girth;
        for (int water = need - 1; water <= need + 1; water++) {
          BoomSorters x = jammed(0, girth, logs - 1);
          x.pass(water, 1);
          due("GIRTH " + girth + ", LOGS " + logs + ", WATER " + water + ": in the JAM", x.ofReach(0, 5),
              water < need ? logs : 0);
          due("AFLOAT", x.ofReach(0, 4), water < need ? 0 : logs);
        }
      }
    }
  }

  private static void girthOfKeyAlone() {
    for (int water = 13; water <= 14; water++) {
      BoomSorters x = new BoomSorters();
      x.gate(0, 0);
      x.rocks(0, 9);
      x.fell(0, 0, PINE, 7, 1);
      x.fell(0, 0, PINE, 9, 9);
      x.fell(0, 0, PINE, 9, 9);
      x.roll(0);
      x.pass(water, 1);
      due("14 break 3 LOGS with a KEY of the GIRTH 1: " + water, x.ofReach(0, 6), water < 14 ? 0 : NONE);
    }
  }

  private static void waterBehindFlow() {
    // A KEY of the GIRTH 9 needs 22 beside the FLOW, and does not go on by a FLOW of 10.
    for (int melt = 31; melt <= 33; melt++) {
      BoomSorters x = jammed(0, 9, 0);
      x.gate(0, 1);
      x.pass(melt, 1);
      due("10 of " + melt + " flow away: in the JAM", x.ofReach(0, 5), melt < 32 ? 1 : 0);
    }
  }

  private static void waterBreaksJamBelow() {
    for (int melt = 21; melt <= 23; melt++) {
      BoomSorters x = jammed(1, 9, 0);
      x.pass(melt, 1);
      due("what came from above counts: in the JAM", x.ofReach(1, 5), melt < 22 ? 1 : 0);
      BoomSorters y = jammed(5, 9, 0);
      y.pass(melt, 1);
      y.pass(0, 3);
      due("it is not there yet", y.ofReach(5, 5), 1);
      y.pass(0, 1);
      due("at 5: in the JAM", y.ofReach(5, 5), melt < 22 ? 1 : 0);
    }
  }

  // ---- 2: what drives

  private static void girthAndFlow() {
    for (int girth = 2; girth <= 9; girth++) {
      for (int flow = 2 * girth - 1; flow <= 2 * girth + 1; flow++) {
        BoomSorters x = new BoomSorters();
        rolled(x, 0, 0, PINE, 3, girth);
        x.pass(flow, 1);
        due("FLOW", x.ofReach(0, 3), flow);
        due("GIRTH " + girth + ", FLOW " + flow + ": its REACH", x.ofLog(0, 1), flow < 2 * girth ? 0 : 1);
      }
    }
    BoomSorters y = new BoomSorters();
    rolled(y, 0, 0, PINE, 3, 1);
    y.pass(2, 1);
    due("a FLOW of 2 is enough for the GIRTH 1, but 2 / 4 are 0", y.ofLog(0, 1), 0);
  }

  private static void quarterOfFlow() {
    for (int flow = 0; flow <= 32; flow++) {
      BoomSorters x = new BoomSorters();
      rolledThin(x, 0, 9);
      x.pass(flow, 1);
      int gone = Math.min(flow, 30) / 4;
      due("a MELT of " + flow + ": they are at 1", x.ofReach(1, 4), gone);
      due("they are left", x.ofReach(0, 4), 9 - gone);
      due("the first one that is left", x.row(0, 0), gone);
      due("the first one that went on", x.row(1, 0), gone == 0 ? NONE : 0);
    }
    BoomSorters y = new BoomSorters();
    rolledThin(y, 0, 6);
    y.pass(30, 1);
    due("fewer than FLOW / 4", y.ofReach(1, 4), 6);
    due("none is left", y.row(0, 0), NONE);
  }

  private static void thickOnesStay() {
    // By a FLOW of 9 two LOGS go on, whose GIRTH is 4 at most.
    BoomSorters x = new BoomSorters();
    int[] girths = {5, 4, 9, 1, 4, 1};
    for (int girth : girths) {
      x.fell(0, 0, PINE, 3, girth);
    }
    x.roll(0);
    x.pass(9, 1);
    due("the first one that goes on", x.row(1, 0), 1);
    due("the second one", x.row(1, 1), 3);
    due("no third one", x.row(1, 2), NONE);
    int[] left = {0, 2, 4, 5, NONE};
    for (int k = 0; k < left.length; k++) {
      due("left in order", x.row(0, k), left[k]);
    }
  }

  private static void oneReachADay() {
    BoomSorters x = flowing();
    rolled(x, 0, 1, PINE, 3, 1);
    for (int reach = 1; reach <= 5; reach++) {
      due("came into the BOOM", x.pass(30, 1), 0);
      due("its REACH", x.ofLog(0, 1), reach);
      due("its PLACE", place(x, 0), AFLOAT);
    }
    due("came into the BOOM", x.pass(30, 1), 1);
    due("its PLACE", place(x, 0), BOOM);
    // Those below go on first: the LOG that comes finds none of them AFLOAT.
    BoomSorters y = flowing();
    rolledThin(y, 3, 7);
    rolled(y, 2, 1, PINE, 9, 1);
    y.pass(30, 1);
    due("9 and 0 are no JAM", place(y, 7), AFLOAT);
    due("at 3", y.ofLog(7, 1), 3);
    due("seven are at 4", y.ofReach(4, 4), 7);
  }

  private static void brokenJamGoesOn() {
    BoomSorters x = jammed(0, 1, 0);
    x.gate(0, 3);
    x.pass(35, 1);
    due("5 are too few behind the FLOW", place(x, 0), JAM);
    due("it is at 0", x.ofLog(0, 1), 0);
    x.pass(31, 1);
    due("6 are not: it is at 1", x.ofLog(0, 1), 1);
    due("its PLACE", place(x, 0), AFLOAT);
  }

  private static void roomAtFirst() {
    for (int many = 19; many <= 21; many++) {
      BoomSorters x = flowing();
      due("the ROOM", x.many(12), 20);
      int came = 0;
      for (int log = 0; log < many; log++) {
        x.fell(0, 5, PINE, 3, 1);
        if (log % 7 == 6 || log == many - 1) {
          x.roll(5);
          came += x.pass(30, 1);
        }
      }
      due("of " + many + " came into the BOOM", came, Math.min(many, 20));
      due("in the BOOM", x.many(6), Math.min(many, 20));
      due("on the SHORE of 5", x.ofReach(5, 7), many == 21 ? 1 : 0);
      due("the last one", place(x, many - 1), many == 21 ? SHORE : BOOM);
    }
  }

  private static void roomBounds() {
    for (int room = 3; room <= 5; room++) {
      BoomSorters x = flowing();
      x.boom(room);
      rolledThin(x, 5, 4);
      due("ROOM " + room + ": came into the BOOM", x.pass(30, 1), Math.min(room, 4));
      due("on the SHORE of 5", x.ofReach(5, 7), room == 3 ? 1 : 0);
      due("the last one", place(x, 3), room == 3 ? SHORE : BOOM);
      due("its REACH", x.ofLog(3, 1), room == 3 ? 5 : NONE);
      due("the one ahead of it", place(x, 2), BOOM);
      due("one that is on the SHORE is not AFLOAT", x.ofReach(5, 4), 0);
    }
  }

  private static void leastAndGreatestRoom() {
    BoomSorters x = flowing();
    due("the ROOM before", x.boom(0), 20);
    rolledThin(x, 5, 2);
    due("no ROOM: came into the BOOM", x.pass(30, 1), 0);
    due("in the BOOM", x.many(6), 0);
    due("on the SHORE", x.many(4), 2);
    due("the ROOM before", x.boom(1), 0);
    x.push(0);
    x.push(1);
    due("ROOM of 1: came into the BOOM", x.pass(30, 1), 1);
    due("the first one", place(x, 0), BOOM);
    due("the second one", place(x, 1), SHORE);
    due("the ROOM before", x.boom(40), 1);
    due("the ROOM", x.many(12), 40);
    BoomSorters y = boomOfMany(40, 0);
    due("40 are in the BOOM", y.many(6), 40);
    due("the ROOM before", y.boom(39), 40);
  }

  private static void roomBelowWhatIsThere() {
    for (int room = 0; room <= 3; room++) {
      BoomSorters x = boomOf(1, 1, 1);
      x.boom(room);
      due("in the BOOM", x.many(6), 3);
      rolled(x, 5, 1, PINE, 3, 1);
      due("ROOM of " + room + " for 3: came into the BOOM", x.pass(30, 1), 0);
      due("in the BOOM", x.many(6), 3);
      due("on the SHORE", place(x, 3), SHORE);
    }
    BoomSorters x = boomOf(1, 1, 1, 1);
    x.boom(3);
    x.storm(1);
    x.push(3);
    due("3 for 3: came into the BOOM", x.pass(30, 1), 0);
    x.sort(1);
    x.push(3);
    due("one was SORTED: came into the BOOM", x.pass(30, 1), 1);
    x.storm(1);
    x.push(3);
    due("one was on the SHORE: came into the BOOM", x.pass(30, 1), 1);
  }

  private static void cameIntoTheBoom() {
    BoomSorters x = flowing();
    due("without LOGS", x.pass(30, 1), 0);
    due("without LOGS in 20 DAYS", x.pass(30, 20), 0);
    rolledThin(x, 5, 9);
    due("in a DAY 7 at most", x.pass(30, 1), 7);
    rolledThin(x, 5, 7);
    due("in 2 DAYS the other 9", x.pass(30, 2), 9);
    due("no more", x.pass(30, 20), 0);
    due("NOW", x.many(0), 50);
  }

  // ---- 2: what soaks and sinks

  private static void soakedEachDay() {
    for (int kind = PINE; kind <= OAK; kind++) {
      BoomSorters x = flowing();
      rolled(x, 5, 0, kind, 3, 1);
      rolled(x, 5, 1, kind, 3, 1);
      rolled(x, 5, 1, kind, 3, 1);
      x.pass(30, 1);
      x.sort(2);
      x.gate(5, 0);
      rolled(x, 5, 1, kind, 3, 1);
      addJam(x, 0, 9, 0);
      int inJam = x.fell(0, 0, kind, 3, 1);
      x.roll(0);
      x.pass(0, 1);
      int each = kind == OAK ? 2 : 1;
      int[] places = {POOL, GAP, BOOM, AFLOAT};
      for (int log = 0; log < 4; log++) {
        due("PLACE", place(x, log), places[log]);
        due("SOAKED with the PLACE " + places[log], x.ofLog(log, 6), log < 3 ? 2 * each : each);
      }
      due("PLACE", place(x, inJam), JAM);
      due("SOAKED in a JAM", x.ofLog(inJam, 6), each);
    }
  }

  private static void sinkBounds() {
    int[] bounds = {24, 18, 14};
    int[] days = {24, 18, 7};
    for (int kind = PINE; kind <= OAK; kind++) {
      BoomSorters x = new BoomSorters();
      rolled(x, 2, 0, kind, 3, 1);
      for (int day = 1; day < days[kind]; day++) {
        x.pass(0, 1);
        due("SOAKED on the DAY " + day, x.ofLog(0, 6), bounds[kind] * day / days[kind]);
        due("PLACE on the DAY " + day, place(x, 0), AFLOAT);
      }
      due("LOGS AFLOAT", x.ofReach(2, 4), 1);
      x.pass(0, 1);
      due("SOAKED at its bound", x.ofLog(0, 6), bounds[kind]);
      due("PLACE at its bound", place(x, 0), SUNK);
      due("LOGS AFLOAT", x.ofReach(2, 4), 0);
      due("LOGS that are SUNK", x.ofReach(2, 8), 1);
      x.pass(0, 1);
      due("no more SOAKED", x.ofLog(0, 6), bounds[kind]);
      due("the DAY on which it SANK", x.ofLog(0, 8), days[kind]);
    }
  }

  private static void oakBeyondItsBound() {
    BoomSorters x = flowing();
    rolled(x, 5, 1, OAK, 3, 1);
    x.pass(30, 6);
    due("SOAKED by 12", x.ofLog(0, 6), 12);
    x.gate(5, 0);
    x.storm(1);
    x.pass(0, 1);
    due("11 on the SHORE", x.ofLog(0, 6), 11);
    x.push(0);
    x.pass(0, 1);
    due("SOAKED by 13", x.ofLog(0, 6), 13);
    due("it is AFLOAT", place(x, 0), AFLOAT);
    x.pass(0, 1);
    due("SOAKED by 15", x.ofLog(0, 6), 15);
    due("it is SUNK", place(x, 0), SUNK);
  }

  private static void sunkAtItsReach() {
    for (int reach = 0; reach <= 5; reach++) {
      BoomSorters x = new BoomSorters();
      rolled(x, reach, 0, OAK, 3, 1);
      x.pass(0, 7);
      due("SUNK", place(x, 0), SUNK);
      due("AFLOAT before: its REACH", x.ofLog(0, 1), reach);
      BoomSorters y = jammed(reach, 1, 0);
      int log = y.fell(0, reach, OAK, 3, 1);
      y.roll(reach);
      y.pass(0, 7);
      due("SUNK", place(y, log), SUNK);
      due("in a JAM before: its REACH", y.ofLog(log, 1), reach);
      due("its KEY swims", y.ofReach(reach, 5), 1);
    }
  }

  private static void sunkAtFive() {
    BoomSorters x = boomOf(1, 2, 4, 8, 0, 1);
    x.sort(5);
    x.pass(0, 20);
    x.pass(0, 2);
    for (int log = 0; log < 6; log++) {
      due("PLACE, SOAKED by 23", place(x, log), log < 4 ? GAP : log == 4 ? POOL : BOOM);
    }
    x.pass(0, 1);
    for (int log = 0; log < 6; log++) {
      due("PLACE", place(x, log), SUNK);
      due("its REACH", x.ofLog(log, 1), 5);
      due("the DAY on which it SANK", x.ofLog(log, 8), 30);
    }
    due("SUNK at 5", x.ofReach(5, 8), 6);
    due("SUNK at 0", x.ofReach(0, 8), 0);
    due("in the BOOM", x.row(NONE, 0), NONE);
    for (int owner = 0; owner < 4; owner++) {
      due("LOGS in the GAP of " + owner, x.ofOwner(owner, 2), 0);
      due("the first one in the GAP of " + owner, x.ofOwner(owner, 3), NONE);
    }
    due("in the POOL", x.share(), 0);
  }

  private static void dryOnTheShore() {
    for (int kind = PINE; kind <= OAK; kind++) {
      BoomSorters x = flowing();
      rolled(x, 5, 1, kind, 3, 1);
      x.pass(30, 1);
      x.storm(1);
      int soaked = kind == OAK ? 2 : 1;
      for (int day = 0; day < 4; day++) {
        due("SOAKED behind " + day + " DAYS", x.ofLog(0, 6), Math.max(soaked - day, 0));
        x.pass(30, 1);
      }
    }
    // One that found no ROOM is on the SHORE on that DAY already.
    BoomSorters y = flowing();
    y.boom(0);
    rolled(y, 5, 1, OAK, 3, 1);
    y.pass(30, 1);
    due("SOAKED of one that found no ROOM", y.ofLog(0, 6), 0);
  }

  private static void notSoaked() {
    BoomSorters x = boomOf(1, 1);
    x.sort(2);
    x.order(PINE, 3, 1, 60);
    x.raft(0, 0, 1);
    int inTheWoods = x.fell(0, 2, OAK, 3, 1);
    x.pass(0, 1);
    due("in the WOODS", x.ofLog(inTheWoods, 6), 0);
    due("on a RAFT", x.ofLog(0, 6), 1);
    due("in a GAP", x.ofLog(1, 6), 2);
    x.pass(0, 20);
    due("at a MILL", x.ofLog(0, 6), 1);
    due("at a MILL it does not sink", place(x, 0), MILL);
    due("in the WOODS it does not sink", place(x, inTheWoods), WOODS);
    BoomSorters y = jammed(0, 1, 0);
    y.pass(0, 1);
    y.blast(0);
    y.pass(0, 20);
    y.pass(0, 20);
    due("GONE", y.ofLog(0, 6), 1);
    due("what is GONE does not sink", place(y, 0), GONE);
  }

  private static void cameAndSank() {
    for (int days = 5; days <= 6; days++) {
      BoomSorters x = flowing();
      x.gate(5, 0);
      rolled(x, 5, 1, OAK, 3, 1);
      x.pass(30, days);
      x.gate(5, 3);
      due("came into the BOOM", x.pass(30, 1), 1);
      due("SOAKED by " + 2 * (days + 1), place(x, 0), days == 5 ? BOOM : SUNK);
      due("in the BOOM", x.many(6), days == 5 ? 1 : 0);
    }
  }

  // ---- 2: what comes to a reach

  private static void comesToAJam() {
    BoomSorters x = jammed(2, 1, 1);
    x.rocks(2, 0);
    int small = rolled(x, 2, 6, PINE, 3, 1);
    due("3 and 0 would be no JAM, but there is one", place(x, small), JAM);
    x.rocks(2, 9);
    int large = rolled(x, 2, 6, PINE, 9, 9);
    due("another in it", place(x, large), JAM);
    due("its KEY stays", x.ofReach(2, 6), 0);
    due("how many", x.ofReach(2, 5), 4);
    due("STROKES of the first that came", x.ofLog(small, 5), 6);
    due("in a JAM it loses none, with ROCKS of 9", x.ofLog(large, 5), 6);
    x.crew(20);
    x.pull(2);
    int[] order = {0, 1, small, large, NONE};
    for (int k = 0; k < order.length; k++) {
      due("at the end, in order", x.row(2, k), order[k]);
    }
    due("STROKES as it broke", x.ofLog(large, 5), 6);
  }

  private static void rocksOfFive() {
    for (int rocks = 0; rocks <= 9; rocks++) {
      BoomSorters x = new BoomSorters();
      x.rocks(3, rocks);
      int log = rolled(x, 3, 6, PINE, 3, 1);
      due("AFLOAT", place(x, log), AFLOAT);
      due("STROKES with ROCKS of " + rocks, x.ofLog(log, 5), rocks < 5 ? 6 : 4);
      int key = rolled(x, 3, 6, PINE, 9, 1);
      due("PLACE", place(x, key), rocks < 6 ? AFLOAT : JAM);
      due("STROKES of a KEY with ROCKS of " + rocks, x.ofLog(key, 5), rocks < 5 ? 6 : 4);
    }
  }

  private static void smallestStroke() {
    for (int strokes = 0; strokes < 64; strokes++) {
      BoomSorters x = new BoomSorters();
      x.rocks(0, 5);
      rolled(x, 0, strokes, PINE, 3, 1);
      due("STROKES of " + strokes, x.ofLog(0, 5), strokes - Integer.lowestOneBit(strokes));
    }
  }

  private static void sixteen() {
    for (int rocks = 0; rocks <= 9; rocks++) {
      for (int afloat = 0; afloat <= 13; afloat++) {
        int length = 16 - rocks - afloat;
        for (int l = Math.max(length - 1, 3); l <= Math.min(length + 1, 9); l++) {
          BoomSorters x = new BoomSorters();
          rolledThin(x, 1, afloat);
          x.rocks(1, rocks);
          int log = rolled(x, 1, 0, PINE, l, 1);
          due("LENGTH " + l + ", ROCKS " + rocks + ", AFLOAT " + afloat, place(x, log), l < length ? AFLOAT : JAM);
          due("KEY", x.ofReach(1, 6), l < length ? NONE : log);
          due("LOGS AFLOAT", x.ofReach(1, 4), l < length ? afloat + 1 : afloat);
        }
      }
    }
  }

  private static void sixteenWithoutRocks() {
    for (int afloat = 6; afloat <= 8; afloat++) {
      BoomSorters x = new BoomSorters();
      rolledThin(x, 4, afloat);
      int log = rolled(x, 4, 3, PINE, 9, 1);
      due("9 and " + afloat, place(x, log), afloat < 7 ? AFLOAT : JAM);
      due("without ROCKS no STROKE is lost", x.ofLog(log, 5), 3);
    }
  }

  private static void onlyAfloatCounts() {
    BoomSorters x = flowing();
    x.boom(0);
    rolledThin(x, 5, 7);
    x.pass(30, 1);
    due("on the SHORE", x.ofReach(5, 7), 7);
    due("9 and 0: those on the SHORE do not count", place(x, rolled(x, 5, 0, PINE, 9, 1)), AFLOAT);
    for (int log = 0; log < 6; log++) {
      due("push", x.push(log), AFLOAT);
    }
    due("9 and 7", place(x, rolled(x, 5, 0, PINE, 9, 1)), JAM);
    // What is SUNK, or broke free and is AFLOAT.
    BoomSorters y = new BoomSorters();
    for (int k = 0; k < 8; k++) {
      y.fell(0, 3, OAK, 3, 1);
    }
    y.roll(3);
    y.pass(0, 7);
    due("SUNK", y.ofReach(3, 8), 8);
    due("9 and 0: those that are SUNK do not count", place(y, rolled(y, 3, 0, PINE, 9, 1)), AFLOAT);
    due("at another REACH", place(y, rolled(y, 4, 0, PINE, 9, 1)), AFLOAT);
    BoomSorters z = jammed(2, 1, 6);
    z.crew(20);
    z.pull(2);
    z.rocks(2, 0);
    due("9 and the 7 that broke free", place(z, rolled(z, 2, 0, PINE, 9, 1)), JAM);
  }

  private static void behindTheOthers() {
    BoomSorters x = new BoomSorters();
    x.gate(1, 0);
    rolledThin(x, 1, 2);
    addJam(x, 1, 1, 2);
    due("the KEY", x.ofReach(1, 6), 2);
    x.pass(18, 1);
    due("no JAM", x.ofReach(1, 5), 0);
    for (int k = 0; k < 5; k++) {
      due("AFLOAT in order", x.row(1, k), k);
      due("PLACE", place(x, k), AFLOAT);
    }
    due("no sixth one", x.row(1, 5), NONE);
    due("AFLOAT", x.ofReach(1, 4), 5);
  }

  private static void nextKey() {
    // An OAK of the GIRTH 9 is the KEY of two PINES of the GIRTHS 2 and 9: 30 are due with it, 12 without it.
    for (int water = 11; water <= 12; water++) {
      BoomSorters x = new BoomSorters();
      x.gate(0, 0);
      x.rocks(0, 9);
      x.fell(0, 0, OAK, 7, 9);
      x.fell(0, 0, PINE, 7, 2);
      x.fell(0, 0, PINE, 7, 9);
      x.roll(0);
      x.pass(water, 1);
      x.pass(0, 5);
      due("the KEY", x.ofReach(0, 6), 0);
      due("in the JAM", x.ofReach(0, 5), 3);
      x.pass(0, 1);
      due("the OAK is SUNK", place(x, 0), SUNK);
      due("the next one is the KEY", x.ofReach(0, 6), 1);
      due("in the JAM", x.ofReach(0, 5), 2);
      x.pass(0, 1);
      due("12 break it: WATER " + water, x.ofReach(0, 5), water < 12 ? 2 : 0);
    }
  }

  private static void lastOfAJamSinks() {
    BoomSorters x = new BoomSorters();
    x.rocks(4, 9);
    rolled(x, 4, 0, OAK, 7, 1);
    x.pass(0, 6);
    due("the KEY", x.ofReach(4, 6), 0);
    x.pass(0, 1);
    due("no KEY", x.ofReach(4, 6), NONE);
    due("no JAM", x.ofReach(4, 5), 0);
    due("the next one is AFLOAT", place(x, rolled(x, 4, 0, PINE, 6, 1)), AFLOAT);
    due("9 and 1 and 6: a new KEY", place(x, rolled(x, 4, 0, PINE, 6, 1)), JAM);
    due("the new KEY", x.ofReach(4, 6), 2);
  }

  private static void rollBounds() {
    BoomSorters x = new BoomSorters();
    due("no LOGS at all", x.roll(0), 0);
    x.fell(0, 1, PINE, 3, 1);
    due("none in the WOODS at 0", x.roll(0), 0);
    due("it is in the WOODS", place(x, 0), WOODS);
    due("one at 1", x.roll(1), 1);
    due("none any more", x.roll(1), 0);
    x.fell(0, 1, PINE, 3, 1);
    x.fell(0, 0, PINE, 3, 1);
    x.fell(0, 1, PINE, 3, 1);
    due("two at 1", x.roll(1), 2);
    int[] order = {0, 1, 3, NONE};
    for (int k = 0; k < order.length; k++) {
      due("by their numbers", x.row(1, k), order[k]);
    }
    due("at 0", x.ofReach(0, 9), 1);
    due("at 1", x.ofReach(1, 9), 0);
  }

  // ---- 3: crew and jams

  private static void crewAndCosts() {
    BoomSorters x = new BoomSorters();
    due("the CREW at first", x.many(13), 0);
    due("COSTS at first", x.many(14), 0);
    x.pass(0, 20);
    due("a CREW of 0 costs nothing", x.many(14), 0);
    due("the CREW before", x.crew(20), 0);
    x.pass(0, 1);
    due("a DAY of 20", x.many(14), 20);
    x.pass(0, 20);
    due("20 DAYS more", x.many(14), 420);
    due("the CREW before", x.crew(1), 20);
    x.pass(0, 1);
    due("a DAY of 1", x.many(14), 421);
    due("the CREW before", x.crew(0), 1);
    due("the CREW", x.many(13), 0);
  }

  private static void pullBounds() {
    int[][] cases = {{1, 1, 1}, {1, 3, 1}, {1, 4, 2}, {1, 7, 2}, {1, 8, 3}, {5, 11, 7}, {5, 12, 8}, {9, 3, 9},
        {9, 4, 10}, {9, 39, 18}, {9, 40, 19}};
    for (int[] c : cases) {
      BoomSorters x = jammed(3, c[0], c[1] - 1);
      String what = "GIRTH " + c[0] + ", LOGS " + c[1] + ": ";
      x.crew(c[2] - 1);
      due(what + "the CREW is too small by 1", x.pull(3), -2);
      due(what + "in the JAM", x.ofReach(3, 5), c[1]);
      x.crew(c[2]);
      due(what + "the CREW is enough", x.pull(3), c[1]);
      due(what + "no JAM", x.ofReach(3, 5), 0);
      due(what + "AFLOAT", x.ofReach(3, 4), c[1]);
      due(what + "no COSTS", x.many(14), 0);
      BoomSorters y = jammed(3, c[0], c[1] - 1);
      y.crew(c[2] + 1);
      due(what + "the CREW is more than enough", y.pull(3), c[1]);
    }
  }

  private static void blastCosts() {
    BoomSorters x = jammed(0, 9, 2);
    due("blast", x.blast(0), 0);
    due("COSTS", x.many(14), 8);
    due("the KEY", place(x, 0), GONE);
    due("its REACH", x.ofLog(0, 1), NONE);
    due("GONE", x.many(11), 1);
    due("no JAM", x.ofReach(0, 5), 0);
    due("AFLOAT in order", x.row(0, 0), 1);
    due("AFLOAT in order", x.row(0, 1), 2);
    due("no third one", x.row(0, 2), NONE);
    int key = rolled(x, 0, 0, PINE, 9, 1);
    due("blast again", x.blast(0), key);
    due("COSTS", x.many(14), 16);
  }

  private static void greatestStroke() {
    for (int strokes = 0; strokes < 64; strokes++) {
      BoomSorters x = jammed(5, 1, 0);
      int log = rolled(x, 5, strokes, PINE, 3, 1);
      x.blast(5);
      due("STROKES of " + strokes, x.ofLog(log, 5), strokes - Integer.highestOneBit(strokes));
    }
  }

  private static void blastOfOne() {
    BoomSorters x = jammed(1, 9, 0);
    x.hammer(felled(x, 1, 1, PINE, 3, 1), 63);
    due("blast", x.blast(1), 0);
    due("no JAM", x.ofReach(1, 6), NONE);
    due("nothing is AFLOAT", x.row(1, 0), NONE);
    due("one in the WOODS loses nothing", x.ofLog(1, 5), 63);
  }

  private static void pushBounds() {
    for (int rocks = 4; rocks <= 8; rocks++) {
      BoomSorters x = flowing();
      x.boom(0);
      rolled(x, 5, 6, PINE, 9, 1);
      x.pass(30, 1);
      due("on the SHORE", place(x, 0), SHORE);
      x.rocks(5, rocks);
      due("9 and " + rocks, x.push(0), rocks < 7 ? AFLOAT : JAM);
      due("COSTS", x.many(14), 1);
      due("its REACH", x.ofLog(0, 1), 5);
      due("STROKES", x.ofLog(0, 5), rocks < 5 ? 6 : 4);
      due("on the SHORE", x.ofReach(5, 7), 0);
    }
    BoomSorters y = sunkOak(0, 1);
    y.raise(0, 0);
    due("push at the REACH 0", y.push(0), AFLOAT);
    due("AFLOAT at 0", y.row(0, 0), 0);
    due("COSTS", y.many(14), 1);
    y.pass(0, 7);
    y.raise(0, 0);
    y.push(0);
    due("COSTS of both", y.many(14), 2);
  }

  private static void fortyInAJam() {
    BoomSorters x = jammed(0, 9, 39);
    due("the KEY", x.ofReach(0, 6), 0);
    x.pass(40, 4);
    due("160 are below 160 and 18", x.ofReach(0, 5), 40);
    x.pass(17, 1);
    due("177 too", x.ofReach(0, 5), 40);
    x.pass(1, 1);
    due("178 are not", x.ofReach(0, 5), 0);
    due("AFLOAT", x.ofReach(0, 4), 40);
    due("the last one", x.row(0, 39), 39);
    due("no LOG 40", x.row(0, 40), NONE);
  }

  // ---- 3: boom and gaps

  private static void stormBounds() {
    for (int force = 1; force <= 9; force++) {
      BoomSorters x = boomOf(1, 1, 1, 1);
      int torn = Math.min(force, 4);
      due("a FORCE of " + force, x.storm(force), torn);
      due("in the BOOM", x.many(6), 4 - torn);
      due("on the SHORE of 5", x.ofReach(5, 7), torn);
      for (int log = 0; log < 4; log++) {
        due("from the last one on", place(x, log), log < 4 - torn ? BOOM : SHORE);
        due("its REACH", x.ofLog(log, 1), log < 4 - torn ? NONE : 5);
      }
      due("no COSTS", x.many(14), 0);
    }
    BoomSorters y = boomOfMany(10, 0);
    due("9 of 10", y.storm(9), 9);
    due("one is left", y.row(NONE, 0), 0);
    due("by the second STORM", y.storm(2), 1);
    due("by both", y.ofReach(5, 7), 10);
  }

  private static void stormOverEmptyBoom() {
    BoomSorters x = flowing();
    due("an empty BOOM", x.storm(1), 0);
    due("an empty BOOM", x.storm(9), 0);
    rolled(x, 5, 1, PINE, 3, 1);
    due("a LOG that is AFLOAT stays", x.storm(9), 0);
    due("its PLACE", place(x, 0), AFLOAT);
  }

  private static void sortBounds() {
    for (int many : new int[] {1, 3, 4, 5, 40}) {
      BoomSorters x = boomOf(1, 2, 4, 8);
      int sorted = Math.min(many, 4);
      due("none in the POOL", x.sort(many), 0);
      due("COSTS", x.many(14), sorted);
      due("in the BOOM", x.many(6), 4 - sorted);
      due("in the GAPS", x.many(7), sorted);
      for (int log = 0; log < 4; log++) {
        due("from the first one on", place(x, log), log < sorted ? GAP : BOOM);
        due("the GAP of " + log, x.ofOwner(log, 3), log < sorted ? log : NONE);
        due("SCALE that was SORTED", x.ofOwner(log, 7), log < sorted ? 10 : 0);
      }
    }
  }

  private static void sortOfEmptyBoom() {
    BoomSorters x = flowing();
    due("an empty BOOM", x.sort(1), 0);
    due("an empty BOOM", x.sort(40), 0);
    due("COSTS", x.many(14), 0);
  }

  private static void sortIntoPool() {
    // No STROKES; a STROKE of no MARK; STROKES of two MARKS together; one's; and in two MARKS.
    BoomSorters x = boomOf(0, 16, 3, 2, 4);
    x.mark(3, 12);
    due("in the POOL", x.sort(5), 4);
    due("the POOL", x.many(8), 4);
    due("the GAP of 1", x.ofOwner(1, 3), 3);
    due("its REACH", x.ofLog(0, 1), NONE);
    due("COSTS are for each", x.many(14), 5);
    BoomSorters y = boomOf(0, 1, 0, 0);
    due("one of two", y.sort(2), 1);
    due("two of two, not those ahead of them", y.sort(2), 2);
    due("the POOL", y.many(8), 3);
  }

  private static void shareOfEmptyPool() {
    BoomSorters x = boomOf(1);
    due("an empty POOL", x.share(), 0);
    x.sort(1);
    due("an empty POOL", x.share(), 0);
    due("got of the POOL", x.ofOwner(0, 6), 0);
    due("COSTS", x.many(14), 1);
  }

  private static void firstOfSeveral() {
    // Without any SORTED all SHARES are 0: each OWNER gets one in turn, then the first one again.
    BoomSorters x = boomOf(0, 0, 0, 0, 0);
    x.sort(5);
    due("share", x.share(), 5);
    int[] wants = {2, 1, 1, 1};
    for (int owner = 0; owner < 4; owner++) {
      due("got of the POOL", x.ofOwner(owner, 6), wants[owner]);
      due("the first one of its GAP", x.ofOwner(owner, 3), owner);
    }
    due("STROKES stay", x.ofLog(0, 5), 0);
    due("the POOL", x.many(8), 0);
    // Two with the same SHARE above the others: the first of them.
    BoomSorters y = boomOf(2, 8, 0);
    y.sort(3);
    y.share();
    due("the OWNER 1", y.ofOwner(1, 6), 1);
    due("the OWNER 3", y.ofOwner(3, 6), 0);
  }

  private static void thirtyLess() {
    // The OWNER 3 has a SCALE of 29, 30, 31; the others have 0: a second LOG is its own only with 1 left.
    int[][][] sorted = {{{5, 4}, {9, 1}}, {{5, 4}, {5, 2}}, {{7, 3}, {5, 2}}};
    for (int k = 0; k < 3; k++) {
      BoomSorters x = flowing();
      for (int[] log : sorted[k]) {
        rolled(x, 5, 8, PINE, log[0], log[1]);
      }
      rolled(x, 5, 0, PINE, 3, 1);
      rolled(x, 5, 0, PINE, 3, 1);
      x.pass(30, 1);
      x.sort(4);
      due("the SCALE", x.ofOwner(3, 7), 29 + k);
      x.share();
      due("with " + (29 + k) + " it got", x.ofOwner(3, 6), k == 2 ? 2 : 1);
      due("the OWNER 0 got", x.ofOwner(0, 6), k == 2 ? 0 : 1);
    }
    // 60 below: 30 of the OWNER 0 against 0 of the others, then 0 again.
    BoomSorters y = flowing();
    rolled(y, 5, 1, PINE, 5, 6);
    for (int k = 0; k < 3; k++) {
      rolled(y, 5, 0, PINE, 3, 1);
    }
    y.pass(30, 1);
    y.sort(4);
    y.share();
    due("30, then 0 as the first one of four, then below", y.ofOwner(0, 6), 2);
    due("the OWNER 1 got", y.ofOwner(1, 6), 1);
  }

  private static void comesAgain() {
    BoomSorters x = boomOf(1, 0);
    x.sort(2);
    x.share();
    due("SORTED", x.ofOwner(0, 7), 10);
    due("got of the POOL", x.ofOwner(0, 6), 1);
    x.pass(30, 20);
    x.pass(30, 3);
    due("SUNK", place(x, 0), SUNK);
    due("SUNK", place(x, 1), SUNK);
    due("SORTED stays", x.ofOwner(0, 7), 10);
    due("got of the POOL stays", x.ofOwner(0, 6), 1);
    x.mark(3, 32);
    x.raise(0, 0);
    x.raise(1, 3);
    x.mark(3, 0);
    x.push(0);
    x.push(1);
    due("they come again", x.pass(30, 1), 2);
    due("one in the POOL", x.sort(2), 1);
    due("SORTED twice", x.ofOwner(0, 7), 20);
    due("share", x.share(), 1);
    due("20 less 30: not the OWNER 0", x.ofOwner(0, 6), 1);
    due("but the OWNER 1", x.ofOwner(1, 6), 1);
  }

  private static void fortyInAGap() {
    BoomSorters x = boomOfMany(40, 2);
    due("the last one", x.row(NONE, 39), 39);
    due("none in the POOL", x.sort(40), 0);
    due("in the GAP", x.ofOwner(2, 2), 40);
    due("the first one", x.ofOwner(2, 3), 0);
    due("SCALE that was SORTED", x.ofOwner(2, 7), 120);
    due("COSTS", x.many(14), 40);
    due("all pay by one", x.settle(0), 0);
    due("MONEY", x.ofOwner(2, 1), -40);
  }

  private static void fortyInThePool() {
    BoomSorters x = boomOfMany(40, 1);
    x.mark(1, 0);
    due("all in the POOL", x.sort(40), 40);
    due("the POOL", x.many(8), 40);
    due("share", x.share(), 40);
    for (int owner = 0; owner < 4; owner++) {
      due("got of the POOL", x.ofOwner(owner, 6), 10);
      due("in the GAP", x.ofOwner(owner, 2), 10);
      due("the first one", x.ofOwner(owner, 3), owner);
    }
  }

  // ---- 3: settling

  private static void settleWithoutLogs() {
    BoomSorters x = new BoomSorters();
    x.crew(7);
    x.pass(0, 1);
    for (int rule = 0; rule <= 2; rule++) {
      due("COSTS left by the rule " + rule, x.settle(rule), 7);
    }
    for (int owner = 0; owner < 4; owner++) {
      due("MONEY", x.ofOwner(owner, 1), 0);
    }
  }

  private static void settleWithoutScale() {
    // 7 times 1: 7 by the rule 0, 0 by the others.
    BoomSorters x = flowing();
    rolled(x, 5, 1, PINE, 7, 1);
    x.pass(30, 1);
    x.crew(5);
    x.pass(30, 1);
    x.sort(1);
    due("COSTS left by the rule 1", x.settle(1), 6);
    due("COSTS left by the rule 2", x.settle(2), 6);
    due("MONEY", x.ofOwner(0, 1), 0);
    due("COSTS left by the rule 0", x.settle(0), 0);
    due("MONEY", x.ofOwner(0, 1), -6);
  }

  private static void settleWithoutCosts() {
    BoomSorters x = boomOf(1, 2);
    x.sort(2);
    due("COSTS left", x.settle(0), 0);
    due("MONEY", x.ofOwner(0, 1), -1);
    due("without COSTS", x.settle(0), 0);
    due("MONEY stays", x.ofOwner(0, 1), -1);
    due("MONEY stays", x.ofOwner(1, 1), -1);
  }

  private static void settleAhead() {
    // Four OWNERS with a fourth each: by what is left they would pay 10, 7, 5, 4.
    BoomSorters x = boomOf(1, 2, 4, 8);
    x.sort(4);
    x.crew(18);
    x.pass(30, 2);
    due("COSTS", x.many(14), 40);
    due("COSTS left", x.settle(0), 0);
    for (int owner = 0; owner < 4; owner++) {
      due("MONEY", x.ofOwner(owner, 1), -10);
    }
  }

  private static void settleRoundedDown() {
    // SCALES of 10 and 20: of 2 to 6 COSTS the OWNER 0 pays a third, rounded down, and the OWNER 1 two thirds.
    int[][] wants = {{3, 1, 2, 0}, {4, 1, 2, 1}, {5, 1, 3, 1}, {6, 2, 4, 0}};
    for (int[] want : wants) {
      BoomSorters x = boomOf(1, 2, 2);
      x.crew(want[0] - 3);
      x.pass(30, 1);
      x.sort(3);
      due("COSTS", x.many(14), want[0]);
      due("COSTS left", x.settle(0), want[3]);
      due("MONEY of 0", x.ofOwner(0, 1), -want[1]);
      due("MONEY of 1", x.ofOwner(1, 1), -want[2]);
      due("COSTS", x.many(14), want[3]);
    }
  }

  private static void settleAlone() {
    for (int owner = 0; owner < 4; owner++) {
      BoomSorters x = boomOf(1 << owner);
      x.sort(1);
      x.crew(20);
      x.pass(30, 5);
      due("COSTS left", x.settle(1), 0);
      for (int other = 0; other < 4; other++) {
        due("MONEY", x.ofOwner(other, 1), other == owner ? -101 : 0);
      }
    }
  }

  private static void settleWhat() {
    // The OWNER 0 has one in its GAP, one on a RAFT, one at a MILL; the OWNER 1 one in its GAP.
    BoomSorters x = boomOf(1, 1, 1, 2, 0, 1, 1);
    x.sort(5);
    x.storm(1);
    x.order(PINE, 3, 1, 60);
    x.raft(0, 0, 1);
    x.pass(0, 2);
    x.raft(0, 0, 1);
    due("MILL", place(x, 0), MILL);
    due("RAFT", place(x, 1), RAFT);
    due("GAP", place(x, 2), GAP);
    due("POOL", place(x, 4), POOL);
    due("BOOM", place(x, 5), BOOM);
    due("SHORE", place(x, 6), SHORE);
    x.crew(15);
    x.pass(0, 1);
    due("COSTS", x.many(14), 20);
    due("COSTS left", x.settle(0), 0);
    due("MONEY of 0: 10 of the MILL, less 15", x.ofOwner(0, 1), -5);
    due("MONEY of 1", x.ofOwner(1, 1), -5);
    // What SANK out of a GAP counts no more, also if it is raised.
    BoomSorters y = boomOf(1, 2);
    y.sort(1);
    y.pass(30, 20);
    y.pass(30, 3);
    due("SUNK", place(y, 0), SUNK);
    due("COSTS left", y.settle(0), 1);
    y.raise(0, 3);
    due("COSTS left", y.settle(0), 1);
  }

  // ---- 4: orders and rafts

  private static void sixOrders() {
    BoomSorters x = new BoomSorters();
    due("ORDERS at first", x.many(16), 0);
    for (int order = 0; order < 6; order++) {
      due("its number", x.order(order % 3, order % 2 == 0 ? 3 : 9, order % 2 == 0 ? 1 : 9, order * 12), order);
      due("ORDERS", x.many(16), order + 1);
    }
  }

  private static void leastLength() {
    int[] lengths = {4, 5, 3, 6, 9, 8};
    for (int least = 3; least <= 9; least++) {
      BoomSorters x = flowing();
      for (int length : lengths) {
        rolled(x, 5, 1, PINE, length, 1);
      }
      x.pass(30, 1);
      x.sort(6);
      x.order(PINE, least, 1, 60);
      int fit = 0;
      for (int length : lengths) {
        fit += length >= least ? 1 : 0;
      }
      due("LEAST LENGTH " + least + ": the RAFT has", x.raft(0, 0, 6), fit);
      for (int log = 0; log < 6; log++) {
        due("LEAST LENGTH " + least + ", LENGTH " + lengths[log], place(x, log), lengths[log] < least ? GAP : RAFT);
      }
      due("in the GAP", x.ofOwner(0, 2), 6 - fit);
      due("in RAFTS", x.ofOwner(0, 4), fit);
    }
  }

  private static void kindOfOrder() {
    for (int kind = PINE; kind <= OAK; kind++) {
      BoomSorters x = flowing();
      for (int k = 0; k < 6; k++) {
        rolled(x, 5, 4, k % 3, 5, 1);
      }
      x.pass(30, 1);
      x.sort(6);
      x.order(kind, 5, 1, 60);
      due("one at most", x.raft(2, 0, 1), 1);
      due("the first one of the KIND " + kind, place(x, kind), RAFT);
      due("not the second one", place(x, kind + 3), GAP);
      due("in the GAP", x.ofOwner(2, 2), 5);
      due("the rest", x.raft(2, 0, 6), 1);
      due("the second one", place(x, kind + 3), RAFT);
      due("none any more", x.raft(2, 0, 6), -2);
      due("none of another OWNER", x.raft(1, 0, 6), -2);
    }
  }

  private static void manyOfRaft() {
    for (int many = 1; many <= 6; many++) {
      BoomSorters x = boomOf(1, 1, 1, 1, 1, 1, 1);
      x.sort(7);
      x.order(PINE, 5, 1, 60);
      due("at most " + many + " of 7", x.raft(0, 0, many), many);
      due("the first one that stays", x.ofOwner(0, 3), many);
      due("in the GAP", x.ofOwner(0, 2), 7 - many);
      due("in RAFTS", x.ofOwner(0, 4), many);
    }
    for (int logs = 5; logs <= 7; logs++) {
      BoomSorters x = boomOfMany(logs, 3);
      x.sort(40);
      x.order(PINE, 3, 1, 60);
      due("6 at most of " + logs, x.raft(3, 0, 6), Math.min(logs, 6));
      due("in the GAP", x.ofOwner(3, 2), logs == 7 ? 1 : 0);
    }
  }

  private static void dueOfRaft() {
    int[] days = {0, 2, 2, 3, 3, 3, 4};
    for (int logs = 1; logs <= 6; logs++) {
      BoomSorters x = boomOf(1, 1, 1, 1, 1, 1);
      x.sort(6);
      x.order(PINE, 3, 1, 60);
      x.raft(0, 0, logs);
      x.pass(0, days[logs] - 1);
      due(logs + " LOGS, the DAY before: RAFTS that are not due yet", x.many(15), 1);
      due("in RAFTS", x.ofOwner(0, 4), logs);
      due("MONEY", x.ofOwner(0, 1), 0);
      x.pass(0, 1);
      due(logs + " LOGS, that DAY: RAFTS that are not due yet", x.many(15), 0);
      due("at MILLS", x.ofOwner(0, 5), logs);
      due("in RAFTS", x.ofOwner(0, 4), 0);
      due("MONEY", x.ofOwner(0, 1), 10 * logs);
      x.pass(0, 20);
      due("it comes once: MONEY", x.ofOwner(0, 1), 10 * logs);
    }
  }

  private static void lateRaft() {
    for (int days = 0; days <= 3; days++) {
      BoomSorters x = boomOf(1);
      x.sort(1);
      x.order(PINE, 3, 1, days);
      x.raft(0, 0, 1);
      x.pass(0, 2);
      due("due in 2 DAYS, its DAY in " + days + ": MONEY", x.ofOwner(0, 1), days < 2 ? 5 : 10);
    }
    // The DAY is told by the ORDER, not by the RAFT.
    for (int later = 0; later <= 1; later++) {
      BoomSorters x = boomOf(1);
      x.sort(1);
      x.order(PINE, 3, 1, 3);
      x.pass(0, 1 + later);
      x.raft(0, 0, 1);
      x.pass(0, 2);
      due("its DAY is " + later + " ago: MONEY", x.ofOwner(0, 1), later == 0 ? 10 : 5);
    }
  }

  private static void sixtyDays() {
    for (int late = 0; late <= 1; late++) {
      BoomSorters x = new BoomSorters();
      x.mark(0, 1);
      x.order(PINE, 3, 2, 60);
      x.pass(0, 20);
      x.pass(0, 20);
      x.pass(30, 17 + late);
      rolled(x, 5, 1, PINE, 5, 2);
      x.pass(30, 1);
      x.sort(1);
      due("the RAFT", x.raft(0, 0, 1), 1);
      x.pass(0, 2);
      due("NOW", x.many(0), 60 + late);
      due("MONEY", x.ofOwner(0, 1), late == 0 ? 20 : 10);
    }
  }

  private static void halfOfEach() {
    // 3 times 3 and 5 times 3, by 3: 27 and 45; half of each is 13 and 22, half of both is 36.
    BoomSorters x = flowing();
    rolled(x, 5, 1, PINE, 3, 3);
    rolled(x, 5, 1, PINE, 5, 3);
    x.pass(30, 1);
    x.sort(2);
    x.order(PINE, 3, 3, 0);
    due("the RAFT", x.raft(0, 0, 2), 2);
    x.pass(0, 2);
    due("MONEY", x.ofOwner(0, 1), 35);
  }

  private static void leastAndGreatestPrice() {
    for (int price = 1; price <= 9; price++) {
      BoomSorters x = flowing();
      rolled(x, 5, 8, SPRUCE, 9, 9);
      x.pass(30, 1);
      x.sort(1);
      x.order(SPRUCE, 9, price, 2);
      due("the RAFT", x.raft(3, 0, 1), 1);
      x.pass(0, 2);
      due("81 by " + price, x.ofOwner(3, 1), 81 * price);
    }
  }

  private static void severalRafts() {
    BoomSorters x = boomOf(1, 2, 1, 1, 1);
    x.sort(5);
    x.order(PINE, 3, 1, 60);
    x.order(PINE, 3, 2, 60);
    due("no RAFTS", x.many(15), 0);
    x.raft(0, 0, 1);
    x.raft(1, 1, 6);
    x.raft(0, 1, 3);
    due("RAFTS", x.many(15), 3);
    x.pass(0, 2);
    due("RAFTS", x.many(15), 1);
    due("MONEY of 0", x.ofOwner(0, 1), 10);
    due("MONEY of 1", x.ofOwner(1, 1), 20);
    due("LOGS in RAFTS of 0", x.ofOwner(0, 4), 3);
    due("at MILLS of 0", x.ofOwner(0, 5), 1);
    x.pass(0, 1);
    due("RAFTS", x.many(15), 0);
    due("MONEY of 0", x.ofOwner(0, 1), 70);
    due("MONEY of 1", x.ofOwner(1, 1), 20);
  }

  // ---- 4: what is raised

  private static void raiseBounds() {
    for (int reach = 0; reach <= 5; reach += 5) {
      BoomSorters x = sunkOak(reach, 1);
      due("SOAKED", x.ofLog(0, 6), 14);
      x.mark(2, 1);
      due("WHOSE it is", x.raise(0, 0), 2);
      due("MONEY of who paid", x.ofOwner(0, 1), -4);
      due("PLACE", place(x, 0), SHORE);
      due("REACH", x.ofLog(0, 1), reach);
      due("SOAKED", x.ofLog(0, 6), 0);
      due("COSTS", x.many(14), 0);
      due("SUNK there", x.ofReach(reach, 8), 0);
      due("on the SHORE there", x.ofReach(reach, 7), 1);
    }
  }

  private static void sunkTenDaysAgo() {
    for (int days = 0; days <= 11; days++) {
      BoomSorters x = sunkOak(1, 1);
      x.mark(0, 1);
      x.mark(3, 6);
      if (days > 0) {
        x.pass(0, days);
      }
      due("SUNK " + days + " DAYS ago: WHOSE", x.raise(0, 3), days < 10 ? 0 : 3);
      due("SUNK " + days + " DAYS ago: STROKES", x.ofLog(0, 5), days < 10 ? 1 : 6);
    }
  }

  private static void raisedWithoutStrokes() {
    for (int days = 1; days <= 11; days += 5) {
      BoomSorters x = sunkOak(1, 0);
      x.mark(3, 6);
      x.pass(0, days);
      due("WHOSE", x.raise(0, 3), 3);
      due("STROKES", x.ofLog(0, 5), 6);
    }
  }

  private static void raisedByOneWithoutMark() {
    BoomSorters x = sunkOak(1, 0);
    due("without STROKES: WHOSE", x.raise(0, 1), NONE);
    due("STROKES", x.ofLog(0, 5), 0);
    due("it pays", x.ofOwner(1, 1), -4);
    BoomSorters y = sunkOak(1, 5);
    y.pass(0, 10);
    due("10 DAYS ago: WHOSE", y.raise(0, 1), NONE);
    due("10 DAYS ago: STROKES", y.ofLog(0, 5), 0);
  }

  private static void sankLast() {
    for (int days = 9; days <= 10; days++) {
      BoomSorters x = sunkOak(1, 1);
      x.mark(2, 8);
      x.raise(0, 2);
      x.push(0);
      x.pass(0, 7);
      due("it SANK last on", x.ofLog(0, 8), 14);
      x.pass(0, days);
      x.raise(0, 2);
      due(days + " DAYS behind the second time: STROKES", x.ofLog(0, 5), days == 9 ? 1 : 8);
      due("paid twice", x.ofOwner(2, 1), -8);
    }
  }

  // ---- what one asks

  private static void firstOfGap() {
    BoomSorters x = boomOf(1, 1);
    for (int owner = 0; owner < 4; owner++) {
      due("an empty GAP", x.ofOwner(owner, 3), NONE);
      due("LOGS in it", x.ofOwner(owner, 2), 0);
    }
    x.sort(1);
    due("one", x.ofOwner(0, 3), 0);
    x.sort(1);
    due("two", x.ofOwner(0, 2), 2);
    due("the first one", x.ofOwner(0, 3), 0);
    x.order(PINE, 3, 1, 60);
    x.raft(0, 0, 1);
    due("the next one", x.ofOwner(0, 3), 1);
    x.raft(0, 0, 1);
    due("an empty GAP", x.ofOwner(0, 3), NONE);
  }

  private static void flowOfLatestDay() {
    BoomSorters x = new BoomSorters();
    for (int reach = 0; reach <= 5; reach++) {
      due("FLOW ahead of the first DAY", x.ofReach(reach, 3), 0);
      due("no KEY", x.ofReach(reach, 6), NONE);
    }
    x.pass(12, 1);
    due("FLOW", x.ofReach(0, 3), 12);
    x.gate(0, 0);
    due("FLOW of the latest DAY", x.ofReach(0, 3), 12);
    x.pass(12, 1);
    due("FLOW of a GATE of 0", x.ofReach(0, 3), 0);
    x.gate(0, 3);
    x.pass(0, 1);
    due("FLOW", x.ofReach(0, 3), 12);
    x.pass(0, 1);
    due("FLOW without WATER", x.ofReach(0, 3), 0);
  }

  private static void reachOfLog() {
    BoomSorters x = boomOf(1, 1, 0, 1, 1);
    x.sort(3);
    x.order(PINE, 3, 1, 60);
    x.raft(0, 0, 1);
    x.storm(1);
    addJam(x, 0, 1, 0);
    x.fell(0, 0, PINE, 3, 1);
    int[] places = {RAFT, GAP, POOL, BOOM, SHORE, JAM, WOODS};
    int[] reaches = {NONE, NONE, NONE, NONE, 5, 0, 0};
    for (int log = 0; log < places.length; log++) {
      due("PLACE", place(x, log), places[log]);
      due("REACH with the PLACE " + places[log], x.ofLog(log, 1), reaches[log]);
    }
    x.blast(0);
    x.roll(0);
    x.pass(0, 2);
    due("MILL", place(x, 0), MILL);
    due("REACH at a MILL", x.ofLog(0, 1), NONE);
    due("GONE", place(x, 5), GONE);
    due("REACH of what is GONE", x.ofLog(5, 1), NONE);
    due("AFLOAT", place(x, 6), AFLOAT);
    due("REACH", x.ofLog(6, 1), 0);
  }

  private static void sankOn() {
    BoomSorters x = new BoomSorters();
    rolled(x, 0, 1, OAK, 3, 1);
    due("never", x.ofLog(0, 8), NONE);
    x.pass(0, 6);
    due("not yet", x.ofLog(0, 8), NONE);
    x.pass(0, 1);
    due("on the DAY 7", x.ofLog(0, 8), 7);
    x.pass(0, 1);
    x.raise(0, 0);
    due("RAISED", x.ofLog(0, 8), 7);
  }

  private static void rowAfloat() {
    BoomSorters x = new BoomSorters();
    for (int reach = 0; reach <= 5; reach += 5) {
      due("nothing is AFLOAT", x.row(reach, 0), NONE);
      rolledThin(x, reach, 13);
      int first = reach == 0 ? 0 : 13;
      due("the first one", x.row(reach, 0), first);
      due("the last one", x.row(reach, 12), first + 12);
      due("none behind it", x.row(reach, 13), NONE);
      due("none behind it", x.row(reach, 40), NONE);
      due("none behind it", x.row(reach, Integer.MAX_VALUE), NONE);
    }
    due("those in a JAM are not AFLOAT", jammed(3, 1, 2).row(3, 0), NONE);
  }

  private static void rowOfBoom() {
    due("an empty BOOM", flowing().row(NONE, 0), NONE);
    BoomSorters x = boomOf(1, 2, 0);
    for (int k = 0; k < 3; k++) {
      due("the LOG " + k, x.row(NONE, k), k);
    }
    due("no fourth one", x.row(NONE, 3), NONE);
    due("no LOG 40", x.row(NONE, 40), NONE);
    due("far behind", x.row(NONE, Integer.MAX_VALUE), NONE);
    x.sort(1);
    due("the first one then", x.row(NONE, 0), 1);
    due("no third one", x.row(NONE, 2), NONE);
    x.storm(2);
    due("an empty BOOM", x.row(NONE, 0), NONE);
  }

  private static void manyOfNothing() {
    BoomSorters x = new BoomSorters();
    for (int what = 0; what <= 18; what++) {
      due("many of " + what, x.many(what), what == 12 ? 20 : 0);
    }
  }

  private static void raftsNotDue() {
    BoomSorters x = boomOfMany(40, 0);
    x.sort(40);
    x.order(PINE, 3, 1, 60);
    for (int raft = 1; raft <= 40; raft++) {
      due("the RAFT", x.raft(0, 0, 1), 1);
      due("RAFTS", x.many(15), raft);
    }
    due("none for another one", x.raft(0, 0, 1), -2);
    x.pass(0, 1);
    due("RAFTS, the DAY before", x.many(15), 40);
    x.pass(0, 1);
    due("RAFTS", x.many(15), 0);
    due("at MILLS", x.ofOwner(0, 5), 40);
    due("MONEY", x.ofOwner(0, 1), 120);
  }

  private static void logsOfNone() {
    BoomSorters x = boomOf(1, 0, 3, 2);
    due("two of four", x.many(18), 2);
    x.mark(3, 2);
    due("of two OWNERS", x.many(18), 3);
    x.mark(0, 0);
    due("of a MARK of 0", x.many(18), 4);
  }

  private static void meanWithoutAny() {
    BoomSorters x = new BoomSorters();
    due("without LOGS", x.meanSoaked(), 0);
    BoomSorters y = jammed(1, 1, 0);
    y.pass(0, 5);
    due("of one", y.meanSoaked(), 5);
    y.blast(1);
    due("of none that is not GONE", y.meanSoaked(), 0);
    BoomSorters z = boomOf(1);
    z.sort(1);
    z.order(PINE, 3, 1, 60);
    z.raft(0, 0, 1);
    z.pass(0, 1);
    due("on a RAFT", z.meanSoaked(), 1);
    z.pass(0, 1);
    due("of none that is not at a MILL", z.meanSoaked(), 0);
  }

  private static void meanNotCut() {
    for (int many = 2; many <= 13; many++) {
      BoomSorters x = new BoomSorters();
      x.fell(0, 0, PINE, 3, 1);
      x.roll(0);
      for (int k = 1; k < many; k++) {
        x.fell(0, 0, PINE, 3, 1);
      }
      x.pass(0, 5);
      due("5 of " + many + ", in the WOODS too", x.meanSoaked(), 5.0 / many);
    }
  }

  // ---- what would be

  private static void boomInBounds() {
    // A KEY at 0 that is free on the DAY 14 is in the BOOM on the DAY 19.
    BoomSorters x = jammed(0, 5, 0);
    x.gate(0, 1);
    due("14 are there on the DAY 14", x.freeIn(0, 11), 14);
    due("in the BOOM on the DAY 19", x.boomIn(11, 18), 0);
    due("in the BOOM on the DAY 19", x.boomIn(11, 19), 1);
    BoomSorters y = new BoomSorters();
    y.gate(0, 1);
    addJam(y, 0, 4, 1);
    y.pass(11, 1);
    due("16 are there on the DAY 15 from now", y.freeIn(0, 11), 15);
    due("in 19 DAYS", y.boomIn(11, 19), 0);
    due("in 20 DAYS", y.boomIn(11, 20), 2);
    due("they come", y.pass(11, 20), 2);
    BoomSorters z = flowing();
    rolledThin(z, 5, 8);
    due("in 1 DAY", z.boomIn(30, 1), 7);
    due("in 2 DAYS", z.boomIn(30, 2), 8);
    due("the WATER of one DAY alone", z.boomIn(0, 1), 7);
  }

  private static void boomInOfNothing() {
    BoomSorters x = new BoomSorters();
    due("without LOGS", x.boomIn(40, 20), 0);
    rolledThin(x, 5, 3);
    due("without WATER", x.boomIn(0, 20), 0);
    due("with a MELT of 1: 1 / 4 are 0", x.boomIn(1, 20), 0);
    due("with a MELT of 4: one a DAY", x.boomIn(4, 20), 3);
    due("on the DAY 6 the first one", x.boomIn(4, 6), 1);
    due("on the DAY 5 none", x.boomIn(40, 5), 0);
    x.boom(0);
    due("without ROOM", x.boomIn(40, 20), 0);
    x.boom(2);
    due("with ROOM for 2", x.boomIn(40, 20), 2);
    BoomSorters y = boomOf(1, 1);
    y.fell(0, 5, PINE, 3, 1);
    due("neither those in the BOOM nor those in the WOODS", y.boomIn(30, 20), 0);
  }

  private static void freeInWithoutJam() {
    BoomSorters x = new BoomSorters();
    for (int reach = 0; reach <= 5; reach++) {
      due("without LOGS", x.freeIn(reach, 40), 0);
    }
    rolledThin(x, 2, 5);
    due("with LOGS AFLOAT", x.freeIn(2, 0), 0);
    addJam(x, 3, 1, 0);
    due("with a JAM at another REACH", x.freeIn(2, 0), 0);
    due("with one", x.freeIn(3, 0), NONE);
    // A JAM that there will be is none yet.
    x.rocks(2, 0);
    x.rocks(4, 9);
    x.fell(0, 3, PINE, 3, 1);
    due("none yet", x.freeIn(4, 40), 0);
  }

  private static void freeInBounds() {
    // 6 are due with a MELT of 1 behind a shut GATE: of a KEY of the GIRTH 1, on the DAY 6.
    BoomSorters x = jammed(0, 1, 0);
    due("6 with a MELT of 6", x.freeIn(0, 6), 1);
    due("6 with a MELT of 5", x.freeIn(0, 5), 2);
    due("6 with a MELT of 1", x.freeIn(0, 1), 6);
    int[][] cases = {{8, 1, 20}, {9, 1, NONE}, {9, 2, 11}, {9, 40, 1}, {9, 22, 1}, {9, 21, 2}};
    for (int[] c : cases) {
      BoomSorters y = jammed(0, c[0], 0);
      due("GIRTH " + c[0] + " with a MELT of " + c[1], y.freeIn(0, c[1]), c[2]);
    }
    BoomSorters z = jammed(0, 9, 0);
    z.pass(1, 1);
    due("21 with a MELT of 1", z.freeIn(0, 1), NONE);
    z.pass(1, 1);
    due("20 with a MELT of 1", z.freeIn(0, 1), 20);
    z.pass(1, 1);
    due("19 with a MELT of 1", z.freeIn(0, 1), 19);
    due("at 5, by what comes on the DAY 5", jammed(5, 1, 0).freeIn(5, 6), 5);
  }

  private static void freeInBySinking() {
    BoomSorters x = jammed(1, 9, 0);
    due("a PINE sinks on the DAY 24", x.freeIn(1, 0), NONE);
    x.pass(0, 3);
    due("in 21 DAYS", x.freeIn(1, 0), NONE);
    x.pass(0, 1);
    due("in 20 DAYS", x.freeIn(1, 0), 20);
    x.pass(0, 19);
    due("in 1 DAY", x.freeIn(1, 0), 1);
    x.pass(0, 1);
    due("it is SUNK", x.freeIn(1, 0), 0);
    // An OAK and a SPRUCE, ROOM that a LOG makes as it sinks: what would be sinks like what is.
    int[] days = {24, 18, 7};
    for (int kind = SPRUCE; kind <= OAK; kind++) {
      BoomSorters z = new BoomSorters();
      z.rocks(1, 9);
      rolled(z, 1, 0, kind, 9, 9);
      due("of the KIND " + kind, z.freeIn(1, 0), days[kind]);
      z.pass(0, days[kind] - 1);
      due("of the KIND " + kind, z.freeIn(1, 0), 1);
    }
    // A new JAM on the DAY on which the old one breaks: as that DAY ends there is one.
    BoomSorters y = jammed(1, 1, 0);
    y.gate(1, 1);
    y.rocks(0, 0);
    y.rocks(1, 9);
    rolled(y, 0, 0, PINE, 9, 1);
    due("16 of WATER: it breaks, and the next one comes", y.freeIn(1, 16), 2);
    y.pass(16, 1);
    due("the new KEY", y.ofReach(1, 6), 1);
  }

  private static void bestGateOfSeveral() {
    BoomSorters x = new BoomSorters();
    due("without LOGS", x.bestGate(5, 40, 20), 0);
    due("without LOGS, of 0", x.bestGate(0, 0, 1), 0);
    BoomSorters y = flowing();
    rolledThin(y, 5, 2);
    due("a GATE of 1 is enough for 2", y.bestGate(5, 30, 1), 1);
    due("the GATE of another REACH does not help: all bring 2", y.bestGate(0, 30, 1), 0);
    y.boom(0);
    due("without ROOM", y.bestGate(5, 30, 20), 0);
    due("the GATE stays", y.ofReach(5, 1), 3);
  }

  private static void bestGateBounds() {
    // By a FLOW of 10, 20, 30 come 2, 5, 7 in a DAY.
    int[] wants = {0, 1, 1, 2, 2, 2, 3, 3, 3};
    for (int many = 0; many <= 8; many++) {
      BoomSorters x = flowing();
      rolledThin(x, 5, many);
      due("of " + many + " LOGS", x.bestGate(5, 30, 1), wants[many]);
      x.gate(5, 0);
      due("whatever the GATE is", x.bestGate(5, 30, 1), wants[many]);
    }
    // No GATE of 4, though there is WATER for it.
    BoomSorters y = flowing();
    y.gate(5, 0);
    y.pass(30, 1);
    rolledThin(y, 5, 9);
    due("with WATER of 60 for 9 LOGS", y.bestGate(5, 30, 1), 3);
    // A thick one needs 10, 12, 18: just as much as its GIRTH, 2 times.
    int[][] girths = {{5, 1}, {6, 2}, {9, 2}};
    for (int[] girth : girths) {
      BoomSorters x = flowing();
      rolled(x, 5, 0, PINE, 3, girth[0]);
      due("of the GIRTH " + girth[0], x.bestGate(5, 30, 1), girth[1]);
    }
  }

  private static void bestGateInDays() {
    // Two a DAY by a GATE of 1, five by one of 2.
    int[][] cases = {{1, 3}, {2, 2}, {3, 2}, {4, 1}, {20, 1}};
    for (int[] c : cases) {
      BoomSorters x = flowing();
      rolledThin(x, 5, 7);
      due("7 LOGS in " + c[0] + " DAYS", x.bestGate(5, 30, c[0]), c[1]);
    }
    // A KEY at 0 by a GATE of 1: the DAY 20 is the first one on which it is in the BOOM.
    BoomSorters y = new BoomSorters();
    y.gate(0, 1);
    addJam(y, 0, 4, 1);
    y.pass(11, 1);
    due("in 19 DAYS", y.bestGate(0, 11, 19), 0);
    due("in 20 DAYS", y.bestGate(0, 11, 20), 1);
  }

  private static void forecastsOfForty() {
    BoomSorters x = boomOfMany(12, 0);
    for (int log = 12; log < 40; log++) {
      x.fell(log % 4, log % 6, log % 3, 3 + log % 7, 1 + log % 9);
    }
    for (int reach = 0; reach <= 5; reach++) {
      x.roll(reach);
    }
    x.sort(5);
    long before = x.digest();
    int free = x.freeIn(4, 40);
    int came = x.boomIn(40, 20);
    int gate = x.bestGate(5, 40, 20);
    due("freeIn again", x.freeIn(4, 40), free);
    due("boomIn again", x.boomIn(40, 20), came);
    due("bestGate again", x.bestGate(5, 40, 20), gate);
    due("the digest is the same", x.digest() == before ? 1 : 0, 1);
    x.gate(5, gate);
    int most = x.boomIn(40, 20);
    for (int other = 0; other <= 3; other++) {
      x.gate(5, other);
      int comes = x.boomIn(40, 20);
      due("no GATE brings more, and no smaller one as much",
          other < gate ? comes < most ? 1 : 0 : comes <= most ? 1 : 0, 1);
    }
    x.gate(5, 3);
    due("what would come comes", x.pass(40, 20), came);
  }

  // ---- the checksum

  private static void digestOfNothing() {
    digestIsExact("a new river", BoomSorters::new, 0);
    due("the very number", new BoomSorters().digest() == 7935787786979848831L ? 1 : 0, 1);
  }

  private static void digestWrapsAround() {
    int below = 0;
    int above = 0;
    for (int days = 0; days < 20; days++) {
      int d = days;
      Maker maker = () -> sortedDayByDay(d);
      due("the exact number has more than 64 bits", exactDigest(maker, 4).bitLength() > 64 ? 1 : 0, 1);
      digestIsExact("behind " + days + " DAYS", maker, 4);
      below += maker.make().digest() < 0 ? 1 : 0;
      above += maker.make().digest() > 0 ? 1 : 0;
    }
    due("some are below 0, and some above", below > 0 && above > 0 ? 1 : 0, 1);
  }

  private static BoomSorters sortedDayByDay(int days) {
    BoomSorters x = boomOf(1, 2, 0, 3);
    for (int day = 0; day < days; day++) {
      x.pass(day, 1);
      x.sort(1);
    }
    return x;
  }

  private static void digestOfLogs() {
    for (int logs : new int[] {1, 2, 13, 39, 40}) {
      digestIsExact(logs + " LOGS", () -> riverOf(logs), logs);
    }
  }

  private static BoomSorters riverOf(int logs) {
    BoomSorters x = new BoomSorters();
    x.rocks(2, 8);
    for (int log = 0; log < logs; log++) {
      x.fell(0, log % 6, log % 3, 3 + log % 7, 1 + log % 9);
    }
    for (int reach = 1; reach <= 5; reach++) {
      x.roll(reach);
    }
    return x;
  }

  /** JAMS that a MELT of 20 breaks, but not one of 19, or already one of 19 and not one of 21. */
  private static void digestOfFreeIn() {
    int[][] jams = {{8, 0, 1}, {9, 0, 2}, {9, 5, 3}};
    for (int[] jam : jams) {
      Maker maker = () -> jammed(0, jam[0], jam[1]);
      due("freeIn of 20", maker.make().freeIn(0, 20), jam[2]);
      digestIsExact("a JAM of " + (1 + jam[1]) + " LOGS", maker, 1 + jam[1]);
    }
    due("one less would be too few", jammed(0, 8, 0).freeIn(0, 19), 2);
    due("one more would be enough", jammed(0, 9, 5).freeIn(0, 21), 2);
  }

  /** The WATER of the first DAY carries a fourth of it out of the REACH 5 on the DAY 6. */
  private static void digestOfBoomIn() {
    for (int ahead = 0; ahead <= 3; ahead += 3) {
      int water = ahead;
      Maker maker = () -> {
        BoomSorters x = new BoomSorters();
        x.gate(0, 0);
        x.pass(water, 1);
        x.gate(0, 3);
        rolledThin(x, 5, 12);
        return x;
      };
      due("boomIn of 20 and 6", maker.make().boomIn(20, 6), 5);
      due("by one DAY less", maker.make().boomIn(20, 5), 0);
      due("by a MELT that is one more or less", maker.make().boomIn(water == 0 ? 19 : 21, 6), water == 0 ? 4 : 6);
      digestIsExact("WATER of " + water + " ahead", maker, 12);
    }
  }

  /** (No MELT moves a LOG into the BOOM within 4 DAYS: the 10 itself makes no difference.) */
  private static void digestOfBestGate() {
    // Behind a GATE that was shut there is WATER for all DAYS: 2 a DAY by a GATE of 1, 8 in 4 DAYS.
    for (int many = 8; many <= 9; many++) {
      int logs = many;
      Maker maker = () -> {
        BoomSorters x = new BoomSorters();
        x.gate(5, 0);
        x.pass(40, 20);
        rolledThin(x, 5, logs);
        return x;
      };
      due("bestGate of 5, 10 and 4", maker.make().bestGate(5, 10, 4), many - 7);
      due("by a DAY less, or more", maker.make().bestGate(5, 10, many == 8 ? 3 : 5), many == 8 ? 2 : 1);
      due("of another REACH", maker.make().bestGate(4, 10, 4), 0);
      digestIsExact(many + " LOGS behind a GATE", maker, many);
    }
  }

  private static void digestIsExact(String what, Maker maker, int logs) {
    due(what + ": the digest is the exact number's lowest 64 bits",
        maker.make().digest() == exactDigest(maker, logs).longValue() ? 1 : 0, 1);
  }

  /** The number of promise 31, not wrapped around; of several alike objects, as it asks for more than 512 answers. */
  private static BigInteger exactDigest(Maker maker, int logs) {
    BigInteger d = BigInteger.valueOf(58191);
    BoomSorters x = maker.make();
    for (int what = 0; what <= 18; what++) {
      d = put(d, x.many(what));
    }
    for (int owner = 0; owner <= 3; owner++) {
      for (int what = 0; what <= 7; what++) {
        d = put(d, x.ofOwner(owner, what));
      }
    }
    for (int reach = 0; reach <= 5; reach++) {
      for (int what = 0; what <= 9; what++) {
        d = put(d, x.ofReach(reach, what));
      }
      for (int k = 0; k <= 2; k++) {
        d = put(d, x.row(reach, k));
      }
      d = put(d, x.freeIn(reach, 20));
    }
    for (int log = 0; log < logs; log++) {
      d = putLog(d, maker.make(), log);
    }
    for (int k = 0; k <= 3; k++) {
      d = put(d, x.row(NONE, k));
    }
    d = put(d, x.boomIn(20, 6));
    return put(d, x.bestGate(5, 10, 4));
  }

  private static BigInteger putLog(BigInteger before, BoomSorters x, int log) {
    BigInteger d = before;
    for (int what = 0; what <= 8; what++) {
      d = put(d, x.ofLog(log, what));
    }
    for (int rule = 0; rule <= 2; rule++) {
      d = put(d, x.scale(log, rule));
    }
    return d;
  }

  private static BigInteger put(BigInteger d, long v) {
    return d.multiply(BigInteger.valueOf(31)).add(BigInteger.valueOf(v));
  }

  private static void call512() {
    BoomSorters x = new BoomSorters();
    BoomSorters y = new BoomSorters();
    for (int call = 1; call <= 505; call++) {
      x.many(0);
    }
    for (BoomSorters each : new BoomSorters[] {x, y}) {
      each.mark(0, 1);
      each.fell(0, 5, PINE, 5, 2);
      each.roll(5);
      each.pass(30, 6);
      each.crew(20);
      due("the call 511", each.sort(1), 0);
      due("the call 512", each.ofOwner(0, 2), 1);
    }
    // Its dearest calls, 512 of them.
    BoomSorters z = new BoomSorters();
    z.crew(20);
    z.gate(5, 0);
    for (int log = 0; log < 40; log++) {
      z.fell(0, 5, PINE, 9, 9);
    }
    z.roll(5);
    for (int call = 44; call < 512; call++) {
      z.pass(40, 20);
    }
    due("the call 512: COSTS", z.many(14), 468 * 20 * 20);
  }
}
