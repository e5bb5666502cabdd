import java.util.ArrayList;

/** A river that carries a forest to the mills. */
public final class BoomSorters {
  private static final int NONE = -1;
  private static final int CANNOT = -2;

  private static final int OWNERS = 4;
  private static final int REACHES = 6;
  private static final int LAST_REACH = REACHES - 1;
  private static final int MOST_LOGS = 40;
  private static final int MOST_ORDERS = 6;
  private static final int GATES = 4;
  private static final int STROKES = 6;
  private static final int LONGEST_FORECAST = 20;

  private static final int WOODS = 0;
  private static final int AFLOAT = 1;
  private static final int JAM = 2;
  private static final int SHORE = 3;
  private static final int SUNK = 4;
  private static final int BOOM = 5;
  private static final int GAP = 6;
  private static final int POOL = 7;
  private static final int RAFT = 8;
  private static final int MILL = 9;
  private static final int GONE = 10;

  private static final int PINE = 0;
  private static final int SPRUCE = 1;
  private static final int OAK = 2;

  private final River river = new River();
  // Forecasts run here: it is made once and filled anew, so that asking makes no objects.
  private final River forecast = new River();
  private final Owner[] owners = new Owner[OWNERS];
  private final ArrayList<Order> orders = new ArrayList<Order>();
  private final ArrayList<Raft> rafts = new ArrayList<Raft>();
  private int crew = 0;
  private int costs = 0;

  public BoomSorters() {
    for (int k = 0; k < owners.length; k++) {
      owners[k] = new Owner();
    }
  }

  // ---- what is told

  public int mark(int owner, int strokes) throws IndexOutOfBoundsException, IllegalArgumentException {
    needOwner(owner);
    needWithin(strokes, 0, 63);
    int before = owners[owner].mark;
    owners[owner].mark = strokes;
    return before;
  }

  public int rocks(int reach, int rocks) throws IndexOutOfBoundsException, IllegalArgumentException {
    needReach(reach);
    needWithin(rocks, 0, 9);
    Reach there = river.reaches[reach];
    int before = there.rocks;
    there.rocks = rocks;
    return before;
  }

  public int gate(int reach, int gate) throws IndexOutOfBoundsException, IllegalArgumentException {
    needReach(reach);
    needWithin(gate, 0, GATES - 1);
    Reach there = river.reaches[reach];
    int before = there.gate;
    there.gate = gate;
    return before;
  }

  public int fell(int owner, int reach, int kind, int length, int girth)
      throws IndexOutOfBoundsException, IllegalArgumentException, IllegalStateException {
    needOwner(owner);
    needReach(reach);
    needWithin(kind, PINE, OAK);
    needWithin(length, 3, 9);
    needWithin(girth, 1, 9);
    needState(river.logs.size() < MOST_LOGS);
    Log log = new Log(river.logs.size());
    log.kind = kind;
    log.length = length;
    log.girth = girth;
    log.strokes = owners[owner].mark;
    log.reach = reach;
    river.logs.add(log);
    return log.number;
  }

  public int hammer(int log, int strokes)
      throws IndexOutOfBoundsException, IllegalArgumentException, IllegalStateException {
    needLog(log);
    needWithin(strokes, 0, 63);
    Log hammered = river.logs.get(log);
    needState(hammered.place == WOODS || hammered.place == SHORE);
    int before = hammered.strokes;
    hammered.strokes = strokes;
    return before;
  }

  public int boom(int room) throws IllegalArgumentException {
    needWithin(room, 0, 40);
    int before = river.room;
    river.room = room;
    return before;
  }

  public int crew(int many) throws IllegalArgumentException {
    needWithin(many, 0, 20);
    int before = crew;
    crew = many;
    return before;
  }

  public int order(int kind, int least, int price, int days)
      throws IllegalArgumentException, IllegalStateException {
    needWithin(kind, PINE, OAK);
    needWithin(least, 3, 9);
    needWithin(price, 1, 9);
    needWithin(days, 0, 60);
    needState(orders.size() < MOST_ORDERS);
    orders.add(new Order(kind, least, price, river.now + days));
    return orders.size() - 1;
  }

  // ---- what is done

  public int roll(int reach) throws IndexOutOfBoundsException {
    needReach(reach);
    int rolled = 0;
    for (int k = 0; k < river.logs.size(); k++) {
      Log log = river.logs.get(k);
      if (log.place == WOODS && log.reach == reach) {
        river.reaches[reach].receive(log);
        rolled++;
      }
    }
    return rolled;
  }

  public int pass(int melt, int days) throws IllegalArgumentException {
    needMelt(melt);
    needDays(days);
    int came = 0;
    for (int k = 0; k < days; k++) {
      came += river.runDay(melt);
      bringRafts();
      costs += crew;
    }
    return came;
  }

  public int pull(int reach) throws IndexOutOfBoundsException, IllegalStateException {
    needReach(reach);
    Reach there = river.reaches[reach];
    Log key = there.key();
    if (key == null) {
      throw new IllegalStateException("there is no JAM");
    }
    int had = there.jam.size;
    if (crew < key.girth + had / 4) {
      return CANNOT;
    }
    there.breakJam();
    return had;
  }

  public int blast(int reach) throws IndexOutOfBoundsException, IllegalStateException {
    needReach(reach);
    Reach there = river.reaches[reach];
    Log key = there.key();
    if (key == null) {
      throw new IllegalStateException("there is no JAM");
    }
    costs += 8;
    there.jam.takeOut(key);
    key.place = GONE;
    key.reach = NONE;
    for (int k = 0; k < there.jam.size; k++) {
      there.jam.logs[k].loseGreatestStroke();
    }
    there.breakJam();
    return key.number;
  }

  public int push(int log) throws IndexOutOfBoundsException, IllegalStateException {
    needLog(log);
    Log pushed = river.logs.get(log);
    needState(pushed.place == SHORE);
    costs += 1;
    if (pushed.reach >= 0 && pushed.reach < REACHES) {
      river.reaches[pushed.reach].receive(pushed);
    }
    return pushed.place;
  }

  public int storm(int force) throws IllegalArgumentException {
    needWithin(force, 1, 9);
    int torn = Math.min(force, river.boom.size);
    for (int k = 0; k < torn; k++) {
      Log log = river.boom.takeLast();
      if (log != null) {
        river.strand(log);
      }
    }
    return torn;
  }

  public int sort(int many) throws IllegalArgumentException {
    needWithin(many, 1, MOST_LOGS);
    int sorted = Math.min(many, river.boom.size);
    int pooled = 0;
    for (int k = 0; k < sorted; k++) {
      Log log = river.boom.takeFirst();
      if (log != null && !sortIntoGap(log)) {
        river.putInPool(log);
        pooled++;
      }
    }
    costs += sorted;
    return pooled;
  }

  public int share() {
    int shared = river.pool.size;
    for (int k = 0; k < shared; k++) {
      Log log = river.pool.takeFirst();
      int owner = ownerWithGreatestShare();
      if (log != null && owner >= 0 && owner < OWNERS) {
        owners[owner].gotOfPool++;
        river.putInGap(log, owner);
      }
    }
    return shared;
  }

  public int settle(int rule) throws IllegalArgumentException {
    needRule(rule);
    int all = 0;
    for (int k = 0; k < OWNERS; k++) {
      all += scaleHeldBy(k, rule);
    }
    if (all == 0) {
      return costs;
    }
    long ahead = costs;
    for (int k = 0; k < OWNERS; k++) {
      int paid = (int) (ahead * scaleHeldBy(k, rule) / all);
      owners[k].money -= paid;
      costs -= paid;
    }
    return costs;
  }

  public int raft(int owner, int order, int many) throws IndexOutOfBoundsException, IllegalArgumentException {
    needOwner(owner);
    needIndex(order, orders.size());
    needWithin(many, 1, 6);
    Order wanted = orders.get(order);
    int number = rafts.size();
    int taken = loadFromGap(river.gaps[owner], wanted, number, many);
    if (taken == 0) {
      return CANNOT;
    }
    rafts.add(new Raft(owner, wanted, river.now + 2 + taken / 3));
    return taken;
  }

  public int raise(int log, int owner) throws IndexOutOfBoundsException, IllegalStateException {
    needLog(log);
    needOwner(owner);
    Log raised = river.logs.get(log);
    needState(raised.place == SUNK);
    owners[owner].money -= 4;
    raised.place = SHORE;
    raised.soaked = 0;
    if (raised.strokes == 0 || river.now - raised.sankOn >= 10) {
      raised.strokes = owners[owner].mark;
    }
    return whose(raised);
  }

  // ---- what one asks

  public int ofOwner(int owner, int what) throws IndexOutOfBoundsException, IllegalArgumentException {
    needOwner(owner);
    needWithin(what, 0, 7);
    Owner asked = owners[owner];
    Line gap = river.gaps[owner];
    switch (what) {
      case 0: return asked.mark;
      case 1: return asked.money;
      case 2: return gap.size;
      case 3: return gap.numberAt(0);
      case 4: return countHeld(owner, RAFT);
      case 5: return countHeld(owner, MILL);
      case 6: return asked.gotOfPool;
      default: return asked.sortedScale;
    }
  }

  public int ofReach(int reach, int what) throws IndexOutOfBoundsException, IllegalArgumentException {
    needReach(reach);
    needWithin(what, 0, 9);
    Reach asked = river.reaches[reach];
    switch (what) {
      case 0: return asked.water;
      case 1: return asked.gate;
      case 2: return asked.rocks;
      case 3: return asked.flow;
      case 4: return asked.afloat.size;
      case 5: return asked.jam.size;
      case 6: return asked.jam.numberAt(0);
      case 7: return countAtReach(reach, SHORE);
      case 8: return countAtReach(reach, SUNK);
      default: return countAtReach(reach, WOODS);
    }
  }

  public int ofLog(int log, int what) throws IndexOutOfBoundsException, IllegalArgumentException {
    needLog(log);
    needWithin(what, 0, 8);
    Log asked = river.logs.get(log);
    switch (what) {
      case 0: return asked.place;
      case 1: return asked.reach;
      case 2: return asked.kind;
      case 3: return asked.length;
      case 4: return asked.girth;
      case 5: return asked.strokes;
      case 6: return asked.soaked;
      case 7: return whose(asked);
      default: return asked.sankOn;
    }
  }

  public int row(int reach, int k) throws IndexOutOfBoundsException, IllegalArgumentException {
    if (reach != NONE) {
      needReach(reach);
    }
    if (k < 0) {
      throw new IllegalArgumentException("k is below 0");
    }
    Line line = reach == NONE ? river.boom : river.reaches[reach].afloat;
    return line.numberAt(k);
  }

  public int scale(int log, int rule) throws IndexOutOfBoundsException, IllegalArgumentException {
    needLog(log);
    needRule(rule);
    return river.logs.get(log).scaleBy(rule);
  }

  public int many(int what) throws IllegalArgumentException {
    needWithin(what, 0, 18);
    switch (what) {
      case 0: return river.now;
      case 12: return river.room;
      case 13: return crew;
      case 14: return costs;
      case 15: return countRaftsUnderWay();
      case 16: return orders.size();
      case 17: return river.waterOfAll();
      case 18: return countLogsOfNone();
      default: return countAtPlace(what - 1);
    }
  }

  public double meanSoaked() {
    int soaked = 0;
    int counted = 0;
    for (int k = 0; k < river.logs.size(); k++) {
      Log log = river.logs.get(k);
      if (log.place != GONE && log.place != MILL) {
        soaked += log.soaked;
        counted++;
      }
    }
    return counted == 0 ? 0.0 : (double) soaked / counted;
  }

  // ---- what would be (nothing is changed)

  public int boomIn(int melt, int days) throws IllegalArgumentException {
    needMelt(melt);
    needDays(days);
    forecast.copyFrom(river);
    return forecast.runDays(melt, days);
  }

  public int freeIn(int reach, int melt) throws IndexOutOfBoundsException, IllegalArgumentException {
    needReach(reach);
    needMelt(melt);
    if (river.reaches[reach].jam.size == 0) {
      return 0;
    }
    forecast.copyFrom(river);
    for (int day = 1; day <= LONGEST_FORECAST; day++) {
      forecast.runDay(melt);
      if (forecast.reaches[reach].jam.size == 0) {
        return day;
      }
    }
    return NONE;
  }

  public int bestGate(int reach, int melt, int days) throws IndexOutOfBoundsException, IllegalArgumentException {
    needReach(reach);
    needMelt(melt);
    needDays(days);
    int best = 0;
    int most = NONE;
    for (int gate = 0; gate < GATES; gate++) {
      forecast.copyFrom(river);
      forecast.reaches[reach].gate = gate;
      int came = forecast.runDays(melt, days);
      if (came > most) {
        most = came;
        best = gate;
      }
    }
    return best;
  }

  public long digest() {
    long d = 58191;
    for (int what = 0; what <= 18; what++) {
      d = d * 31 + many(what);
    }
    for (int owner = 0; owner < OWNERS; owner++) {
      for (int what = 0; what <= 7; what++) {
        d = d * 31 + ofOwner(owner, what);
      }
    }
    for (int reach = 0; reach < REACHES; reach++) {
      d = addReach(d, reach);
    }
    for (int log = 0; log < river.logs.size(); log++) {
      d = addLog(d, log);
    }
    for (int k = 0; k <= 3; k++) {
      d = d * 31 + row(NONE, k);
    }
    d = d * 31 + boomIn(20, 6);
    d = d * 31 + bestGate(5, 10, 4);
    return d;
  }

  private long addReach(long before, int reach) {
    long d = before;
    for (int what = 0; what <= 9; what++) {
      d = d * 31 + ofReach(reach, what);
    }
    for (int k = 0; k <= 2; k++) {
      d = d * 31 + row(reach, k);
    }
    return d * 31 + freeIn(reach, 20);
  }

  private long addLog(long before, int log) {
    long d = before;
    for (int what = 0; what <= 8; what++) {
      d = d * 31 + ofLog(log, what);
    }
    for (int rule = 0; rule <= 2; rule++) {
      d = d * 31 + scale(log, rule);
    }
    return d;
  }

  // ---- what a call needs

  private static void needIndex(int index, int size) {
    if (index < 0 || index >= size) {
      throw new IndexOutOfBoundsException("there is none with this number");
    }
  }

  private static void needOwner(int owner) {
    needIndex(owner, OWNERS);
  }

  private static void needReach(int reach) {
    needIndex(reach, REACHES);
  }

  private void needLog(int log) {
    needIndex(log, river.logs.size());
  }

  private static void needWithin(int value, int least, int most) {
    if (value < least || value > most) {
      throw new IllegalArgumentException("a value is outside its bounds");
    }
  }

  private static void needRule(int rule) {
    needWithin(rule, 0, 2);
  }

  private static void needMelt(int melt) {
    needWithin(melt, 0, 40);
  }

  private static void needDays(int days) {
    needWithin(days, 1, LONGEST_FORECAST);
  }

  private static void needState(boolean stands) {
    if (!stands) {
      throw new IllegalStateException("this can not be done as things are");
    }
  }

  // ---- owners, gaps and rafts

  private int whose(Log log) {
    if (log.strokes == 0) {
      return NONE;
    }
    int found = NONE;
    for (int k = 0; k < owners.length; k++) {
      if ((log.strokes & ~owners[k].mark) == 0) {
        if (found != NONE) {
          return NONE;
        }
        found = k;
      }
    }
    return found;
  }

  private boolean sortIntoGap(Log log) {
    int owner = whose(log);
    if (owner < 0 || owner >= OWNERS) {
      return false;
    }
    owners[owner].sortedScale += log.scaleBy(0);
    river.putInGap(log, owner);
    return true;
  }

  private int ownerWithGreatestShare() {
    int best = 0;
    for (int k = 1; k < owners.length; k++) {
      if (owners[k].shareOfPool() > owners[best].shareOfPool()) {
        best = k;
      }
    }
    return best;
  }

  private int scaleHeldBy(int owner, int rule) {
    int held = 0;
    for (int k = 0; k < river.logs.size(); k++) {
      Log log = river.logs.get(k);
      if (log.holder == owner) {
        held += log.scaleBy(rule);
      }
    }
    return held;
  }

  private int loadFromGap(Line gap, Order wanted, int raft, int most) {
    int waiting = gap.size;
    int taken = 0;
    for (int k = 0; k < waiting && taken < most; k++) {
      Log log = gap.logs[k - taken];
      if (wanted.takes(log)) {
        gap.takeOut(log);
        log.place = RAFT;
        log.raft = raft;
        taken++;
      }
    }
    return taken;
  }

  private void bringRafts() {
    for (int k = 0; k < rafts.size(); k++) {
      if (rafts.get(k).due == river.now) {
        unload(k, rafts.get(k));
      }
    }
  }

  private void unload(int number, Raft raft) {
    for (int k = 0; k < river.logs.size(); k++) {
      Log log = river.logs.get(k);
      if (log.place == RAFT && log.raft == number) {
        log.place = MILL;
        owners[raft.owner].money += raft.order.pays(log, river.now);
      }
    }
  }

  // ---- how many there are

  private int countHeld(int owner, int place) {
    int count = 0;
    for (int k = 0; k < river.logs.size(); k++) {
      Log log = river.logs.get(k);
      if (log.place == place && log.holder == owner) {
        count++;
      }
    }
    return count;
  }

  private int countAtReach(int reach, int place) {
    int count = 0;
    for (int k = 0; k < river.logs.size(); k++) {
      Log log = river.logs.get(k);
      if (log.place == place && log.reach == reach) {
        count++;
      }
    }
    return count;
  }

  private int countAtPlace(int place) {
    int count = 0;
    for (int k = 0; k < river.logs.size(); k++) {
      if (river.logs.get(k).place == place) {
        count++;
      }
    }
    return count;
  }

  private int countRaftsUnderWay() {
    int count = 0;
    for (int k = 0; k < rafts.size(); k++) {
      if (rafts.get(k).due > river.now) {
        count++;
      }
    }
    return count;
  }

  private int countLogsOfNone() {
    int count = 0;
    for (int k = 0; k < river.logs.size(); k++) {
      if (whose(river.logs.get(k)) == NONE) {
        count++;
      }
    }
    return count;
  }

  private static final class Owner {
    private int mark = 0;
    private int money = 0;
    private int gotOfPool = 0;
    private int sortedScale = 0;

    private int shareOfPool() {
      return sortedScale - 30 * gotOfPool;
    }
  }

  private static final class Order {
    private final int kind;
    private final int least;
    private final int price;
    private final int day;

    private Order(int kind, int least, int price, int day) {
      this.kind = kind;
      this.least = least;
      this.price = price;
      this.day = day;
    }

    private boolean takes(Log log) {
      return log.kind == kind && log.length >= least;
    }

    private int pays(Log log, int now) {
      int full = log.scaleBy(0) * price;
      return now > day ? full / 2 : full;
    }
  }

  private static final class Raft {
    private final int owner;
    private final Order order;
    private final int due;

    private Raft(int owner, Order order, int due) {
      this.owner = owner;
      this.order = order;
      this.due = due;
    }
  }

  private static final class Log {
    private final int number;
    private int kind;
    private int length;
    private int girth;
    private int strokes;
    private int soaked = 0;
    private int place = WOODS;
    // NONE wherever the place is at no REACH.
    private int reach = NONE;
    private int sankOn = NONE;
    // The OWNER whose GAP it is in, whose RAFT it is on, or from whom it came to a MILL.
    private int holder = NONE;
    private int raft = NONE;

    private Log(int number) {
      this.number = number;
    }

    private int scaleBy(int rule) {
      if (rule == 0) {
        return length * girth;
      }
      if (rule == 1) {
        return length * girth * girth / 8;
      }
      int sound = length * Math.max(girth - 2, 0);
      return soaked >= 10 ? sound / 2 : sound;
    }

    private void loseSmallestStroke() {
      strokes &= strokes - 1;
    }

    private void loseGreatestStroke() {
      for (int k = STROKES - 1; k >= 0; k--) {
        int stroke = 1 << k;
        if ((strokes & stroke) != 0) {
          strokes -= stroke;
          return;
        }
      }
    }

    private boolean isInWater() {
      return place == AFLOAT || place == JAM || place == BOOM || place == GAP || place == POOL;
    }

    private int soakedWhenItSinks() {
      if (kind == PINE) {
        return 24;
      }
      return kind == SPRUCE ? 18 : 14;
    }

    private void copyFrom(Log other) {
      kind = other.kind;
      length = other.length;
      girth = other.girth;
      strokes = other.strokes;
      soaked = other.soaked;
      place = other.place;
      reach = other.reach;
      sankOn = other.sankOn;
      holder = other.holder;
      raft = other.raft;
    }
  }

  /** LOGS in the order in which they came. */
  private static final class Line {
    private final Log[] logs = new Log[MOST_LOGS];
    private int size = 0;

    private int numberAt(int k) {
      return k >= 0 && k < size ? logs[k].number : NONE;
    }

    private void append(Log log) {
      if (size < logs.length) {
        logs[size] = log;
        size++;
      }
    }

    private void takeOut(Log log) {
      int kept = 0;
      for (int k = 0; k < size; k++) {
        if (logs[k] != log) {
          logs[kept] = logs[k];
          kept++;
        }
      }
      size = kept;
    }

    private Log takeFirst() {
      if (size == 0) {
        return null;
      }
      Log first = logs[0];
      takeOut(first);
      return first;
    }

    private Log takeLast() {
      if (size == 0) {
        return null;
      }
      size--;
      return logs[size];
    }

    /** Takes the order of another river's line, with the logs of this one. */
    private void copyFrom(Line other, ArrayList<Log> own) {
      size = 0;
      for (int k = 0; k < other.size; k++) {
        int number = other.logs[k].number;
        if (number < own.size()) {
          append(own.get(number));
        }
      }
    }
  }

  private static final class Reach {
    private final int number;
    private int water = 0;
    private int gate = GATES - 1;
    private int rocks = 0;
    private int flow = 0;
    private final Line afloat = new Line();
    private final Line jam = new Line();

    private Reach(int number) {
      this.number = number;
    }

    private Log key() {
      return jam.size == 0 ? null : jam.logs[0];
    }

    /** A LOG COMES here. */
    private void receive(Log log) {
      log.reach = number;
      if (jam.size == 0 && rocks >= 5) {
        log.loseSmallestStroke();
      }
      if (jam.size > 0 || log.length + rocks + afloat.size >= 16) {
        log.place = JAM;
        jam.append(log);
      } else {
        log.place = AFLOAT;
        afloat.append(log);
      }
    }

    private void breakJam() {
      for (int k = 0; k < jam.size; k++) {
        Log log = jam.logs[k];
        log.place = AFLOAT;
        afloat.append(log);
      }
      jam.size = 0;
    }

    private boolean waterBreaksJam() {
      Log key = key();
      return key != null && water >= 4 * jam.size + 2 * key.girth;
    }

    private void letFlow() {
      flow = Math.min(10 * gate, water);
      water -= flow;
    }

    private void copyFrom(Reach other, ArrayList<Log> own) {
      water = other.water;
      gate = other.gate;
      rocks = other.rocks;
      flow = other.flow;
      afloat.copyFrom(other.afloat, own);
      jam.copyFrom(other.jam, own);
    }
  }

  /** All that the water moves or soaks: what a forecast has to copy. */
  private static final class River {
    private int now = 0;
    private int room = 20;
    private final ArrayList<Log> logs = new ArrayList<Log>();
    private final Reach[] reaches = new Reach[REACHES];
    private final Line boom = new Line();
    private final Line[] gaps = new Line[OWNERS];
    private final Line pool = new Line();

    private River() {
      for (int k = 0; k < reaches.length; k++) {
        reaches[k] = new Reach(k);
      }
      for (int k = 0; k < gaps.length; k++) {
        gaps[k] = new Line();
      }
    }

    private int waterOfAll() {
      int water = 0;
      for (int k = 0; k < reaches.length; k++) {
        water += reaches[k].water;
      }
      return water;
    }

    private int runDays(int melt, int days) {
      int came = 0;
      for (int k = 0; k < days; k++) {
        came += runDay(melt);
      }
      return came;
    }

    /** The steps (1) to (4) of a DAY; answers how many LOGS came into the BOOM. */
    private int runDay(int melt) {
      now++;
      reaches[0].water += melt;
      moveWater();
      for (int k = 0; k < reaches.length; k++) {
        if (reaches[k].waterBreaksJam()) {
          reaches[k].breakJam();
        }
      }
      int came = 0;
      for (int k = LAST_REACH; k >= 0; k--) {
        came += driveFrom(reaches[k]);
      }
      for (int k = 0; k < logs.size(); k++) {
        soak(logs.get(k));
      }
      return came;
    }

    private void moveWater() {
      for (int k = LAST_REACH; k >= 0; k--) {
        reaches[k].letFlow();
        if (k < LAST_REACH) {
          reaches[k + 1].water += reaches[k].flow;
        }
      }
    }

    private int driveFrom(Reach from) {
      int most = from.flow / 4;
      int waiting = from.afloat.size;
      int gone = 0;
      int came = 0;
      for (int k = 0; k < waiting && gone < most; k++) {
        Log log = from.afloat.logs[k - gone];
        if (2 * log.girth <= from.flow) {
          from.afloat.takeOut(log);
          gone++;
          if (from.number < LAST_REACH) {
            reaches[from.number + 1].receive(log);
          } else if (holdInBoom(log)) {
            came++;
          }
        }
      }
      return came;
    }

    /** A LOG that left the last REACH; answers whether the BOOM has room for it. */
    private boolean holdInBoom(Log log) {
      if (boom.size >= room) {
        strand(log);
        return false;
      }
      log.place = BOOM;
      log.reach = NONE;
      boom.append(log);
      return true;
    }

    /** A LOG of the BOOM, or that has no room there, is on the SHORE of the last REACH. */
    private void strand(Log log) {
      log.place = SHORE;
      log.reach = LAST_REACH;
    }

    private void putInGap(Log log, int owner) {
      if (owner >= 0 && owner < gaps.length) {
        log.place = GAP;
        log.reach = NONE;
        log.holder = owner;
        gaps[owner].append(log);
      }
    }

    private void putInPool(Log log) {
      log.place = POOL;
      log.reach = NONE;
      pool.append(log);
    }

    private void soak(Log log) {
      if (log.isInWater()) {
        log.soaked += log.kind == OAK ? 2 : 1;
        if (log.soaked >= log.soakedWhenItSinks()) {
          sink(log);
        }
      } else if (log.place == SHORE) {
        log.soaked = Math.max(log.soaked - 1, 0);
      }
    }

    private void sink(Log log) {
      Line line = lineOf(log);
      if (line != null) {
        line.takeOut(log);
      }
      log.place = SUNK;
      log.reach = log.reach == NONE ? LAST_REACH : log.reach;
      log.holder = NONE;
      log.sankOn = now;
    }

    private Line lineOf(Log log) {
      boolean atReach = log.reach >= 0 && log.reach < REACHES;
      boolean held = log.holder >= 0 && log.holder < OWNERS;
      switch (log.place) {
        case AFLOAT: return atReach ? reaches[log.reach].afloat : null;
        case JAM: return atReach ? reaches[log.reach].jam : null;
        case BOOM: return boom;
        case GAP: return held ? gaps[log.holder] : null;
        case POOL: return pool;
        default: return null;
      }
    }

    private void copyFrom(River other) {
      now = other.now;
      room = other.room;
      for (int k = 0; k < other.logs.size(); k++) {
        if (k >= logs.size()) {
          logs.add(new Log(k));
        }
        logs.get(k).copyFrom(other.logs.get(k));
      }
      for (int k = 0; k < reaches.length; k++) {
        reaches[k].copyFrom(other.reaches[k], logs);
      }
      boom.copyFrom(other.boom, logs);
      for (int k = 0; k < gaps.length; k++) {
        gaps[k].copyFrom(other.gaps[k], logs);
      }
      pool.copyFrom(other.pool, logs);
    }
  }
}
