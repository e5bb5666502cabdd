import java.util.ArrayList;
import java.util.List;

/**
 * What must change nothing: calls that throw, calls that answer -2, questions and forecasts. Each is made on one of
 * two objects that are alike; both must answer the same from then on, also what depends on rows that no question shows.
 */
public final class RefusalTests {
  private static final int NONE = -1;
  private static final int WOODS = 0;
  private static final int AFLOAT = 1;
  private static final int JAM = 2;
  private static final int SHORE = 3;
  private static final int SUNK = 4;
  private static final int BOOM = 5;
  private static final int GAP = 6;
  private static final int RAFT = 8;
  private static final int MILL = 9;
  private static final int GONE = 10;

  private static final String INDEX = "throws IndexOutOfBoundsException";
  private static final String ARGUMENT = "throws IllegalArgumentException";
  private static final String STATE = "throws IllegalStateException";

  private static final Promise[] PROMISES = {
    new Promise(2, "mark", owner(), number("strokes", 0, 63)),
    new Promise(3, "rocks", reach(), number("rocks", 0, 9)),
    new Promise(4, "gate", reach(), number("gate", 0, 3)),
    new Promise(5, "fell", owner(), reach(), number("kind", 0, 2), number("length", 3, 9), number("girth", 1, 9)),
    new Promise(6, "hammer", log(), number("strokes", 0, 63)),
    new Promise(7, "boom", number("room", 0, 40)),
    new Promise(8, "crew", number("many", 0, 20)),
    new Promise(9, "order", number("kind", 0, 2), number("least", 3, 9), number("price", 1, 9),
        number("days", 0, 60)),
    new Promise(10, "roll", reach()),
    new Promise(11, "pass", number("melt", 0, 40), number("days", 1, 20)),
    new Promise(12, "pull", reach()),
    new Promise(13, "blast", reach()),
    new Promise(14, "push", log()),
    new Promise(15, "storm", number("force", 1, 9)),
    new Promise(16, "sort", number("many", 1, 40)),
    new Promise(17, "share"),
    new Promise(18, "settle", number("rule", 0, 2)),
    new Promise(19, "raft", owner(), order(), number("many", 1, 6)),
    new Promise(20, "raise", log(), owner()),
    new Promise(21, "ofOwner", owner(), number("what", 0, 7)),
    new Promise(22, "ofReach", reach(), number("what", 0, 9)),
    new Promise(23, "ofLog", log(), number("what", 0, 8)),
    new Promise(24, "row", new Parameter("reach (NONE to 5)", NONE, 5, true), number("k", 0, Integer.MAX_VALUE)),
    new Promise(25, "scale", log(), number("rule", 0, 2)),
    new Promise(26, "many", number("what", 0, 18)),
    new Promise(27, "meanSoaked"),
    new Promise(28, "boomIn", number("melt", 0, 40), number("days", 1, 20)),
    new Promise(29, "freeIn", reach(), number("melt", 0, 40)),
    new Promise(30, "bestGate", reach(), number("melt", 0, 40), number("days", 1, 20)),
    new Promise(31, "digest"),
  };

  private static int tests = 0;
  private static int wrong = 0;
  private static String at = "";

  private interface Body {
    void run();
  }

  /** A run of calls on a new object, with how many LOGS and ORDERS there are behind it. */
  private enum River {
    NEW(0, 0), FILLED(34, 3), FULL(40, 6);

    final int logs;
    final int orders;

    River(int logs, int orders) {
      this.logs = logs;
      this.orders = orders;
    }

    BoomSorters make() {
      BoomSorters x = new BoomSorters();
      if (this != NEW) {
        fill(x);
      }
      if (this == FULL) {
        fillUp(x);
      }
      return x;
    }
  }

  /** What the document says of a parameter: its bounds, and whether what is outside of them is no such one. */
  private static final class Parameter {
    final String name;
    final long least;
    final long most;
    final boolean isIndex;

    Parameter(String name, long least, long most, boolean isIndex) {
      this.name = name;
      this.least = least;
      this.most = most;
      this.isIndex = isIndex;
    }

    /** The bounds of LOGS and ORDERS are how many there are in the river. */
    long mostIn(River river) {
      if (name.equals("log")) {
        return river.logs - 1;
      }
      return name.equals("order") ? river.orders - 1 : most;
    }

    boolean allows(int value, River river) {
      return value >= least && value <= mostIn(river);
    }

    /** Just outside the bounds, and far outside. */
    List<Integer> outside(River river) {
      List<Integer> values = new ArrayList<>();
      long[] all = {least - 1, mostIn(river) + 1, Integer.MIN_VALUE, Integer.MAX_VALUE};
      for (long value : all) {
        if (value == (int) value && !allows((int) value, river)) {
          values.add((int) value);
        }
      }
      return values;
    }
  }

  private static final class Promise {
    final int number;
    final String call;
    final Parameter[] parameters;

    Promise(int number, String call, Parameter... parameters) {
      this.number = number;
      this.call = call;
      this.parameters = parameters;
    }

    int[] leastArguments() {
      int[] a = new int[parameters.length];
      for (int k = 0; k < a.length; k++) {
        a[k] = (int) parameters[k].least;
      }
      return a;
    }

    /** Whether its face names an IllegalStateException: for these arguments the river may be wrong. */
    boolean mayAskForAState() {
      return List.of(5, 6, 9, 12, 13, 14, 20).contains(number);
    }

    /** What the arguments alone ask for: IndexOutOfBoundsException is always named before the others. */
    String refusal(int[] a, River river) {
      String due = "";
      for (int k = 0; k < a.length; k++) {
        if (!parameters[k].allows(a[k], river)) {
          if (parameters[k].isIndex) {
            return INDEX;
          }
          due = ARGUMENT;
        }
      }
      return due;
    }
  }

  private static Parameter owner() {
    return new Parameter("owner", 0, 3, true);
  }

  private static Parameter reach() {
    return new Parameter("reach", 0, 5, true);
  }

  private static Parameter log() {
    return new Parameter("log", 0, 39, true);
  }

  private static Parameter order() {
    return new Parameter("order", 0, 5, true);
  }

  private static Parameter number(String name, int least, int most) {
    return new Parameter(name, least, most, false);
  }

  public static void main(String[] args) {
    test("the river that is filled has all PLACES", RefusalTests::allPlaces);
    for (Promise promise : PROMISES) {
      boundsOf(promise);
    }
    statesOfHammer();
    statesOfPush();
    statesOfRaise();
    statesOfJams();
    test("promise 5: throws IllegalStateException if there were 40", RefusalTests::fortyLogs);
    test("promise 9: throws IllegalStateException if there were 6", RefusalTests::sixOrders);
    test("promise 12: -2, if the CREW is too small", RefusalTests::crewTooSmall);
    test("promise 19: -2, if there is none for it", RefusalTests::noneForTheRaft);
    for (Promise promise : PROMISES) {
      if (promise.number >= 21) {
        test("promise " + promise.number + ": " + promise.call + " changes nothing", () -> changesNothing(promise));
      }
    }
    test("nothing to roll, SORT, SHARE, or to be on the SHORE: nothing changes", RefusalTests::nothingToDo);
    System.out.println(wrong == 0 ? tests + " tests: what is refused or asked changes nothing"
        : wrong + " answers are not as due");
    if (wrong != 0) {
      System.exit(1);
    }
  }

  // ---- helpers

  private static void test(String sentence, Body body) {
    at = sentence;
    tests++;
    try {
      body.run();
    } catch (RuntimeException e) {
      wrong++;
      System.out.println(at + ": ended by " + e);
    }
  }

  private static void due(String what, Object got, Object want) {
    if (!String.valueOf(got).equals(String.valueOf(want))) {
      wrong++;
      System.out.println(at + ": " + what + " answered " + got + ", due is " + want);
    }
  }

  private static Object make(BoomSorters x, String call, int... a) {
    switch (call) {
      case "mark": return x.mark(a[0], a[1]);
      case "rocks": return x.rocks(a[0], a[1]);
      case "gate": return x.gate(a[0], a[1]);
      case "fell": return x.fell(a[0], a[1], a[2], a[3], a[4]);
      case "hammer": return x.hammer(a[0], a[1]);
      case "boom": return x.boom(a[0]);
      case "crew": return x.crew(a[0]);
      case "order": return x.order(a[0], a[1], a[2], a[3]);
      case "roll": return x.roll(a[0]);
      case "pass": return x.pass(a[0], a[1]);
      case "pull": return x.pull(a[0]);
      case "blast": return x.blast(a[0]);
      case "push": return x.push(a[0]);
      case "storm": return x.storm(a[0]);
      case "sort": return x.sort(a[0]);
      case "share": return x.share();
      case "settle": return x.settle(a[0]);
      case "raft": return x.raft(a[0], a[1], a[2]);
      case "raise": return x.raise(a[0], a[1]);
      case "ofOwner": return x.ofOwner(a[0], a[1]);
      case "ofReach": return x.ofReach(a[0], a[1]);
      case "ofLog": return x.ofLog(a[0], a[1]);
      case "row": return x.row(a[0], a[1]);
      case "scale": return x.scale(a[0], a[1]);
      case "many": return x.many(a[0]);
      case "meanSoaked": return x.meanSoaked();
      case "boomIn": return x.boomIn(a[0], a[1]);
      case "freeIn": return x.freeIn(a[0], a[1]);
      case "bestGate": return x.bestGate(a[0], a[1], a[2]);
      case "digest": return x.digest();
      default: throw new IllegalArgumentException(call);
    }
  }

  /** The answer, or which exception the program threw: one that the machine or a list threw is told apart. */
  private static String answer(BoomSorters x, String call, int... a) {
    try {
      return String.valueOf(make(x, call, a));
    } catch (RuntimeException e) {
      StackTraceElement[] trace = e.getStackTrace();
      boolean byProgram = trace.length > 0 && trace[0].getClassName().startsWith("BoomSorters");
      return "throws " + e.getClass().getSimpleName() + (byProgram ? "" : ", not by itself");
    }
  }

  private static String told(String call, int... a) {
    return call + java.util.Arrays.toString(a);
  }

  /** The call answers what is due on one of two alike rivers, and they stay alike. */
  private static void refused(River river, String want, String call, int... a) {
    BoomSorters one = river.make();
    BoomSorters other = river.make();
    due(told(call, a) + " in the river " + river, answer(one, call, a), want);
    sameFromNowOn(told(call, a) + " in the river " + river, one, other);
  }

  private static void sameFromNowOn(String what, BoomSorters one, BoomSorters other) {
    same(what, one, other, "digest");
    same(what, one, other, "meanSoaked");
    for (int reach = NONE; reach <= 5; reach++) {
      for (int k = 3; k < 8; k++) {
        same(what, one, other, "row", reach, k);
      }
    }
    for (int reach = 0; reach <= 5; reach++) {
      same(what, one, other, "blast", reach);
      for (int k = 1; k < 4; k++) {
        same(what, one, other, "row", reach, k);
      }
    }
    same(what, one, other, "sort", 3);
    same(what, one, other, "share");
    for (int owner = 0; owner < 4; owner++) {
      for (int k = 0; k < 6; k++) {
        same(what, one, other, "ofOwner", owner, 3);
        same(what, one, other, "raft", owner, k % 3, 1);
      }
    }
    same(what, one, other, "digest");
    same(what, one, other, "fell", 0, 0, 0, 3, 1);
    same(what, one, other, "order", 0, 3, 1, 0);
    for (int days = 1; days < 20; days += 5) {
      same(what, one, other, "pass", 40, days);
      same(what, one, other, "settle", 0);
      same(what, one, other, "digest");
    }
  }

  private static void same(String what, BoomSorters one, BoomSorters other, String call, int... a) {
    due("behind " + what + ", " + told(call, a), answer(one, call, a), answer(other, call, a));
  }

  // ---- rivers

  /** LOGS in all PLACES: 34 of them, and 3 ORDERS. */
  private static void fill(BoomSorters x) {
    for (int owner = 0; owner < 4; owner++) {
      x.mark(owner, 1 << owner);
    }
    x.crew(3);
    x.rocks(0, 9);
    x.fell(0, 0, 2, 9, 9);
    x.roll(0);
    x.pass(30, 6);
    rollIntoBoom(x, 1, 1, 2, 0, 1, 3, 2);
    x.order(0, 3, 2, 1);
    x.order(0, 3, 3, 9);
    x.order(2, 4, 1, 60);
    x.sort(7);
    x.raft(0, 0, 1);
    rollIntoBoom(x, 1, 2, 0, 0, 8, 4, 1);
    x.sort(4);
    rollIntoBoom(x, 1, 2, 4, 8, 0, 2, 1);
    x.raft(1, 1, 2);
    x.storm(2);
    x.rocks(4, 9);
    x.fell(0, 4, 0, 7, 1);
    x.fell(0, 4, 0, 3, 1);
    x.roll(4);
    x.blast(4);
    for (int k = 0; k < 4; k++) {
      x.fell(k, 3, k % 3, 3 + k, 1);
    }
    x.roll(3);
    for (int k = 0; k < 4; k++) {
      x.fell(k, 0, 0, 7, 9);
    }
    x.roll(0);
    x.fell(2, 4, 1, 5, 5);
    x.fell(3, 1, 2, 4, 6);
  }

  private static void rollIntoBoom(BoomSorters x, int... strokes) {
    for (int k = 0; k < strokes.length; k++) {
      int log = x.fell(0, 5, 0, 3 + k % 6, 1 + k % 5);
      x.hammer(log, strokes[k]);
    }
    x.roll(5);
    x.pass(30, 1);
  }

  /** All LOGS and ORDERS that can be: 40 and 6. */
  private static void fillUp(BoomSorters x) {
    for (int log = 34; log < 40; log++) {
      due("fell", x.fell(log % 4, log % 6, log % 3, 3, 1), log);
    }
    for (int order = 3; order < 6; order++) {
      due("order", x.order(order % 3, 3, 1, 20), order);
    }
  }

  /** The first LOG in a PLACE; there is one in the filled river. */
  private static int logIn(BoomSorters x, int place) {
    for (int log = 0; log < River.FILLED.logs; log++) {
      if (x.ofLog(log, 0) == place) {
        return log;
      }
    }
    return NONE;
  }

  private static void allPlaces() {
    BoomSorters x = River.FILLED.make();
    int[] want = {2, 5, 4, 2, 1, 8, 4, 4, 2, 1, 1};
    for (int place = WOODS; place <= GONE; place++) {
      due("LOGS with the PLACE " + place, x.many(1 + place), want[place]);
    }
    due("ORDERS", x.many(16), River.FILLED.orders);
    due("RAFTS", x.many(15), 1);
    BoomSorters full = River.FULL.make();
    due("in the WOODS", full.many(1), 8);
    due("ORDERS", full.many(16), River.FULL.orders);
  }

  // ---- arguments

  private static void boundsOf(Promise promise) {
    for (int k = 0; k < promise.parameters.length; k++) {
      int parameter = k;
      String name = "promise " + promise.number + ": " + promise.call + ", " + promise.parameters[k].name;
      test(name + " below or above its bounds is refused", () -> outside(promise, parameter));
      test(name + " at its bounds is taken", () -> atBounds(promise, parameter));
      for (int j = k + 1; j < promise.parameters.length; j++) {
        int second = j;
        test(name + " and " + promise.parameters[j].name + " both wrong: the exception that is named first",
            () -> bothOutside(promise, parameter, second));
      }
    }
  }

  private static void outside(Promise promise, int parameter) {
    for (River river : River.values()) {
      BoomSorters one = river.make();
      BoomSorters other = river.make();
      for (int value : promise.parameters[parameter].outside(river)) {
        int[] a = promise.leastArguments();
        a[parameter] = value;
        due(told(promise.call, a) + " in the river " + river, answer(one, promise.call, a),
            promise.refusal(a, river));
      }
      sameFromNowOn(promise.call + " refused in the river " + river, one, other);
    }
  }

  private static void bothOutside(Promise promise, int first, int second) {
    for (River river : River.values()) {
      BoomSorters one = river.make();
      BoomSorters other = river.make();
      for (int value : promise.parameters[first].outside(river)) {
        for (int another : promise.parameters[second].outside(river)) {
          int[] a = promise.leastArguments();
          a[first] = value;
          a[second] = another;
          due(told(promise.call, a) + " in the river " + river, answer(one, promise.call, a),
              promise.refusal(a, river));
        }
      }
      sameFromNowOn(promise.call + " refused in the river " + river, one, other);
    }
  }

  /** The least and the greatest value are no wrong arguments, as far as there is such a LOG or ORDER at all. */
  private static void atBounds(Promise promise, int parameter) {
    for (River river : River.values()) {
      long[] bounds = {promise.parameters[parameter].least, promise.parameters[parameter].mostIn(river)};
      for (long bound : bounds) {
        int[] a = promise.leastArguments();
        a[parameter] = (int) bound;
        if (promise.refusal(a, river).isEmpty()) {
          String got = answer(river.make(), promise.call, a);
          boolean taken = !got.startsWith("throws") || got.equals(STATE) && promise.mayAskForAState();
          due(told(promise.call, a) + " in the river " + river + ", " + got + ": taken", taken, true);
        }
      }
    }
  }

  // ---- states

  /** In each PLACE but those that are named the call throws IllegalStateException, whatever its other argument. */
  private static void statesOfHammer() {
    for (int place = WOODS; place <= GONE; place++) {
      int p = place;
      boolean fine = place == WOODS || place == SHORE;
      test("promise 6: hammer a LOG with the PLACE " + place + (fine ? "" : ": IllegalStateException"), () -> {
        BoomSorters x = River.FILLED.make();
        int log = logIn(x, p);
        due("there is one", log >= 0, true);
        if (fine) {
          int before = x.ofLog(log, 5);
          due("hammer", answer(x, "hammer", log, 63), before);
          due("STROKES", x.ofLog(log, 5), 63);
        } else {
          refused(River.FILLED, STATE, "hammer", log, 63);
          refused(River.FILLED, STATE, "hammer", log, 0);
        }
        refused(River.FILLED, ARGUMENT, "hammer", log, 64);
        refused(River.FILLED, ARGUMENT, "hammer", log, -1);
      });
    }
  }

  private static void statesOfPush() {
    for (int place = WOODS; place <= GONE; place++) {
      int p = place;
      test("promise 14: push a LOG with the PLACE " + place + (place == SHORE ? "" : ": IllegalStateException"), () -> {
        BoomSorters x = River.FILLED.make();
        int log = logIn(x, p);
        due("there is one", log >= 0, true);
        if (p == SHORE) {
          due("push", answer(x, "push", log), AFLOAT);
        } else {
          refused(River.FILLED, STATE, "push", log);
        }
      });
    }
  }

  private static void statesOfRaise() {
    for (int place = WOODS; place <= GONE; place++) {
      int p = place;
      test("promise 20: raise a LOG with the PLACE " + place + (place == SUNK ? "" : ": IllegalStateException"), () -> {
        BoomSorters x = River.FILLED.make();
        int log = logIn(x, p);
        due("there is one", log >= 0, true);
        if (p == SUNK) {
          due("raise", answer(x, "raise", log, 2), 2);
        } else {
          refused(River.FILLED, STATE, "raise", log, 0);
          refused(River.FILLED, STATE, "raise", log, 3);
        }
        refused(River.FILLED, INDEX, "raise", log, 4);
        refused(River.FILLED, INDEX, "raise", log, -1);
      });
    }
  }

  /** In the filled river there is a JAM at the REACH 0 alone. */
  private static void statesOfJams() {
    for (String call : new String[] {"pull", "blast"}) {
      test(call + ": IllegalStateException if there is no JAM", () -> {
        for (int reach = 0; reach <= 5; reach++) {
          refused(River.NEW, STATE, call, reach);
          if (reach > 0) {
            refused(River.FILLED, STATE, call, reach);
          }
        }
        due("where there is one", answer(River.FILLED.make(), call, 0).startsWith("throws"), false);
      });
      test(call + ": a JAM that broke is none any more", () -> {
        BoomSorters one = River.FILLED.make();
        BoomSorters other = River.FILLED.make();
        one.blast(0);
        other.blast(0);
        due(call, answer(one, call, 0), STATE);
        sameFromNowOn(call, one, other);
      });
    }
  }

  private static void fortyLogs() {
    BoomSorters x = River.FILLED.make();
    for (int log = 34; log < 39; log++) {
      x.fell(0, 0, 0, 3, 1);
    }
    due("the LOG 39 is the 40th", answer(x, "fell", 0, 0, 0, 3, 1), 39);
    due("the 41st", answer(x, "fell", 0, 0, 0, 3, 1), STATE);
    refused(River.FULL, STATE, "fell", 0, 0, 0, 3, 1);
    refused(River.FULL, STATE, "fell", 3, 5, 2, 9, 9);
    refused(River.FULL, ARGUMENT, "fell", 0, 0, 3, 3, 1);
    refused(River.FULL, ARGUMENT, "fell", 0, 0, 0, 2, 1);
    refused(River.FULL, ARGUMENT, "fell", 0, 0, 0, 3, 10);
    refused(River.FULL, INDEX, "fell", 4, 0, 0, 3, 1);
    refused(River.FULL, INDEX, "fell", 0, 6, 0, 3, 1);
    refused(River.FULL, INDEX, "fell", 4, 6, 3, 10, 10);
    // At most 40 ever: one that is GONE, SUNK or at a MILL makes no room.
    BoomSorters y = River.FULL.make();
    due("one is GONE, one at a MILL, one SUNK", y.many(11) > 0 && y.many(10) > 0 && y.many(5) > 0, true);
    y.blast(0);
    due("one more is GONE", y.many(11), 2);
    due("the 41st", answer(y, "fell", 0, 0, 0, 3, 1), STATE);
  }

  private static void sixOrders() {
    BoomSorters x = River.FILLED.make();
    due("the fourth", answer(x, "order", 0, 3, 1, 0), 3);
    due("the fifth", answer(x, "order", 2, 9, 9, 60), 4);
    due("the sixth", answer(x, "order", 0, 3, 1, 0), 5);
    due("the seventh", answer(x, "order", 0, 3, 1, 0), STATE);
    refused(River.FULL, STATE, "order", 0, 3, 1, 0);
    refused(River.FULL, STATE, "order", 2, 9, 9, 60);
    refused(River.FULL, ARGUMENT, "order", 3, 3, 1, 0);
    refused(River.FULL, ARGUMENT, "order", 0, 10, 1, 0);
    refused(River.FULL, ARGUMENT, "order", 0, 3, 0, 0);
    refused(River.FULL, ARGUMENT, "order", 0, 3, 1, 61);
    // At most 6 ever: an ORDER whose DAY is over makes no room.
    x.pass(0, 20);
    due("20 DAYS later", answer(x, "order", 0, 3, 1, 0), STATE);
  }

  // ---- what gives -2

  private static void crewTooSmall() {
    // The KEY has the GIRTH 9, and there are 4 LOGS: the CREW of 3 is too small.
    refused(River.FILLED, "-2", "pull", 0);
    refused(River.FULL, "-2", "pull", 0);
  }

  private static void noneForTheRaft() {
    // OWNERS 2 and 3 have nothing in their GAPS, and nobody has an OAK.
    for (int owner = 0; owner < 4; owner++) {
      refused(River.FILLED, "-2", "raft", owner, 2, 1);
      refused(River.FULL, "-2", "raft", owner, 2, 6);
    }
    refused(River.FILLED, "-2", "raft", 2, 0, 1);
    refused(River.FILLED, "-2", "raft", 3, 1, 6);
    refused(River.FULL, INDEX, "raft", 2, 6, 1);
    refused(River.FULL, ARGUMENT, "raft", 2, 2, 7);
  }

  // ---- what changes nothing

  private static void changesNothing(Promise promise) {
    for (River river : River.values()) {
      BoomSorters one = river.make();
      BoomSorters other = river.make();
      int[] a = promise.leastArguments();
      if (promise.refusal(a, river).isEmpty()) {
        answer(one, promise.call, a);
        for (int k = 0; k < a.length; k++) {
          a[k] = (int) promise.parameters[k].mostIn(river);
          String got = answer(one, promise.call, a);
          due(told(promise.call, a) + " again", answer(one, promise.call, a), got);
        }
      }
      sameFromNowOn(promise.call + " in the river " + river, one, other);
    }
  }

  /** What has nothing to do answers 0, costs nothing, and changes nothing. */
  private static void nothingToDo() {
    for (int reach = 0; reach <= 5; reach++) {
      refused(River.NEW, "0", "roll", reach);
    }
    refused(River.FILLED, "0", "roll", 3);
    refused(River.NEW, "0", "sort", 40);
    refused(River.NEW, "0", "storm", 9);
    refused(River.NEW, "0", "share");
    for (int rule = 0; rule <= 2; rule++) {
      refused(River.NEW, "0", "settle", rule);
    }
  }
}
