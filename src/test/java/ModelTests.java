import java.util.ArrayList;
import java.util.List;

/**
 * Long runs of calls, each answer compared with that of a second program: a plain one, written from the document
 * alone, that keeps no rows but stamps each LOG with when it came.
 */
public final class ModelTests {
  private static final int RUNS = 1500;
  private static final int CALLS = 250;

  private static int wrong = 0;

  public static void main(String[] args) {
    int[] seen = new int[30];
    for (int run = 1; run <= RUNS && wrong < 20; run++) {
      oneRun(run, seen);
    }
    for (int op = 0; op < Dice.OPS; op++) {
      if (seen[op] == 0) {
        wrong++;
        System.out.println("the call " + op + " never answered without an exception");
      }
    }
    System.out.println(wrong == 0 ? "the model agrees" : wrong + " answers differ from the model's");
    if (wrong != 0) {
      System.exit(1);
    }
  }

  private static void oneRun(int run, int[] seen) {
    BoomSorters program = new BoomSorters();
    Model model = new Model();
    Dice dice = new Dice(run);
    StringBuilder told = new StringBuilder();
    dice.style = run % 4;
    for (int call = 0; call < CALLS; call++) {
      int[] a = dice.call(model.logs.size(), model.orders.size());
      String want = answer(() -> model.call(a));
      String got = answer(() -> callProgram(program, a));
      told.append(' ').append(java.util.Arrays.toString(a)).append("->").append(want);
      if (!want.startsWith("throws")) {
        seen[a[0]]++;
      }
      long wantDigest = model.digest();
      long gotDigest = program.digest();
      if (!got.equals(want) || gotDigest != wantDigest) {
        wrong++;
        System.out.println("run " + run + ", call " + call + " " + java.util.Arrays.toString(a) + ": answered " + got
            + ", the model " + want + (gotDigest != wantDigest ? " (the digests differ)" : ""));
        if (wrong == 1) {
          System.out.println("  its calls (by the numbers of callProgram) and the model's answers:" + told);
        }
        return;
      }
    }
  }

  private interface Call {
    Object make();
  }

  private static String answer(Call call) {
    try {
      return String.valueOf(call.make());
    } catch (RuntimeException e) {
      return "throws " + e.getClass().getSimpleName();
    }
  }

  private static Object callProgram(BoomSorters x, int[] a) {
    switch (a[0]) {
      case 0: return x.mark(a[1], a[2]);
      case 1: return x.rocks(a[1], a[2]);
      case 2: return x.gate(a[1], a[2]);
      case 3: return x.fell(a[1], a[2], a[3], a[4], a[5]);
      case 4: return x.hammer(a[1], a[2]);
      case 5: return x.boom(a[1]);
      case 6: return x.crew(a[1]);
      case 7: return x.order(a[1], a[2], a[3], a[4]);
      case 8: return x.roll(a[1]);
      case 9: return x.pass(a[1], a[2]);
      case 10: return x.pull(a[1]);
      case 11: return x.blast(a[1]);
      case 12: return x.push(a[1]);
      case 13: return x.storm(a[1]);
      case 14: return x.sort(a[1]);
      case 15: return x.share();
      case 16: return x.settle(a[1]);
      case 17: return x.raft(a[1], a[2], a[3]);
      case 18: return x.raise(a[1], a[2]);
      case 19: return x.ofOwner(a[1], a[2]);
      case 20: return x.ofReach(a[1], a[2]);
      case 21: return x.ofLog(a[1], a[2]);
      case 22: return x.row(a[1], a[2]);
      case 23: return x.scale(a[1], a[2]);
      case 24: return x.many(a[1]);
      case 25: return x.meanSoaked();
      case 26: return x.boomIn(a[1], a[2]);
      case 27: return x.freeIn(a[1], a[2]);
      default: return x.bestGate(a[1], a[2], a[3]);
    }
  }

  /** Throws calls: the same seed throws the same ones. */
  private static final class Dice {
    static final int OPS = 29;
    // How often each call is thrown, by its number.
    private static final int[] WEIGHTS = {
      5, 3, 4, 22, 5, 2, 4, 3, 12, 22, 8, 4, 8, 3, 9, 5, 3, 10, 8, 1, 1, 1, 2, 1, 1, 2, 2, 3, 2};
    private long state;
    int style;

    Dice(int seed) {
      state = seed * 7919L + 17;
    }

    int next(int bound) {
      state = state * 6364136223846793005L + 1442695040888963407L;
      return (int) ((state >>> 33) % bound);
    }

    /** A number from least to most; seldom one that is outside. */
    int within(int least, int most) {
      int odd = next(60);
      if (odd == 0) {
        return least - 1 - next(3);
      }
      if (odd == 1) {
        return most + 1 + next(3);
      }
      if (odd == 2 && next(8) == 0) {
        return next(2) == 0 ? Integer.MIN_VALUE : Integer.MAX_VALUE;
      }
      return least + next(Math.max(most - least + 1, 1));
    }

    private int strokes() {
      return next(3) == 0 ? within(0, 63) : within(0, 63) & (next(2) == 0 ? 7 : 56);
    }

    private int melt() {
      return style == 1 ? within(0, 12) : next(2) == 0 ? within(20, 40) : within(0, 40);
    }

    private int days() {
      return next(4) == 0 ? within(1, 20) : within(1, 3);
    }

    private int reach() {
      return style == 2 ? Math.min(within(0, 7), 5) : within(0, 5);
    }

    private int girth() {
      return style == 3 ? within(1, 9) : within(1, 5);
    }

    int[] call(int logs, int orders) {
      int total = 0;
      for (int weight : WEIGHTS) {
        total += weight;
      }
      int roll = next(total);
      int op = 0;
      while (roll >= WEIGHTS[op]) {
        roll -= WEIGHTS[op];
        op++;
      }
      return arguments(op, logs, orders);
    }

    private int[] arguments(int op, int logs, int orders) {
      switch (op) {
        case 0: return new int[] {op, within(0, 3), strokes()};
        case 1: return new int[] {op, reach(), within(0, 9)};
        case 2: return new int[] {op, reach(), within(0, 3)};
        case 3: return new int[] {op, within(0, 3), reach(), within(0, 2), within(3, 9), girth()};
        case 4: return new int[] {op, within(0, logs - 1), strokes()};
        case 5: return new int[] {op, next(3) == 0 ? within(0, 40) : within(1, 8)};
        case 6: return new int[] {op, within(0, 20)};
        case 7: return new int[] {op, within(0, 2), within(3, 9), within(1, 9), within(0, 60)};
        case 8: return new int[] {op, reach()};
        case 9: return new int[] {op, melt(), days()};
        case 10: return new int[] {op, reach()};
        case 11: return new int[] {op, reach()};
        case 12: return new int[] {op, within(0, logs - 1)};
        case 13: return new int[] {op, within(1, 9)};
        case 14: return new int[] {op, within(1, 40)};
        case 15: return new int[] {op};
        case 16: return new int[] {op, within(0, 2)};
        case 17: return new int[] {op, within(0, 3), within(0, orders - 1), within(1, 6)};
        case 18: return new int[] {op, within(0, logs - 1), within(0, 3)};
        case 19: return new int[] {op, within(0, 3), within(0, 7)};
        case 20: return new int[] {op, reach(), within(0, 9)};
        case 21: return new int[] {op, within(0, logs - 1), within(0, 8)};
        case 22: return new int[] {op, within(-1, 5), within(0, 8)};
        case 23: return new int[] {op, within(0, logs - 1), within(0, 2)};
        case 24: return new int[] {op, within(0, 18)};
        case 25: return new int[] {op};
        case 26: return new int[] {op, melt(), within(1, 20)};
        case 27: return new int[] {op, reach(), melt()};
        default: return new int[] {op, reach(), melt(), within(1, 20)};
      }
    }
  }

  private static final class Trunk {
    int kind;
    int length;
    int girth;
    int strokes;
    int soaked;
    int place;
    int reach = -1;
    int sank = -1;
    int owner = -1;
    int due;
    int price;
    int lastDay;
    long stamp;

    Trunk copy() {
      Trunk t = new Trunk();
      t.kind = kind;
      t.length = length;
      t.girth = girth;
      t.strokes = strokes;
      t.soaked = soaked;
      t.place = place;
      t.reach = reach;
      t.sank = sank;
      t.owner = owner;
      t.stamp = stamp;
      return t;
    }

    int scale(int rule) {
      switch (rule) {
        case 0: return length * girth;
        case 1: return length * girth * girth / 8;
        default: {
          int scale = girth <= 2 ? 0 : length * (girth - 2);
          return soaked < 10 ? scale : scale / 2;
        }
      }
    }
  }

  private static final class Model {
    final List<Trunk> logs = new ArrayList<>();
    final List<int[]> orders = new ArrayList<>();
    // One row for each RAFT: the DAY on which it is due.
    final List<Integer> rafts = new ArrayList<>();
    final int[] water = new int[7];
    final int[] gate = {3, 3, 3, 3, 3, 3};
    final int[] rocks = new int[6];
    final int[] flow = new int[6];
    final int[] mark = new int[4];
    final int[] money = new int[4];
    final int[] pooled = new int[4];
    final int[] sorted = new int[4];
    int now;
    int room = 20;
    int crew;
    int costs;
    long clock;

    Model forecast() {
      Model m = new Model();
      for (Trunk t : logs) {
        m.logs.add(t.copy());
      }
      for (int r = 0; r < 6; r++) {
        m.water[r] = water[r];
        m.gate[r] = gate[r];
        m.rocks[r] = rocks[r];
      }
      m.room = room;
      m.clock = clock;
      return m;
    }

    /** The LOGS with a PLACE (at a REACH, or of an OWNER, unless that is -1), as they came there. */
    List<Trunk> in(int place, int reach, int owner) {
      List<Trunk> found = new ArrayList<>();
      for (Trunk t : logs) {
        if (t.place == place && (reach < 0 || t.reach == reach) && (owner < 0 || t.owner == owner)) {
          found.add(t);
        }
      }
      found.sort((s, t) -> Long.compare(s.stamp, t.stamp));
      return found;
    }

    void to(Trunk t, int place, int reach) {
      t.place = place;
      t.reach = reach;
      t.stamp = ++clock;
    }

    void come(Trunk t, int r) {
      if (!in(2, r, -1).isEmpty()) {
        to(t, 2, r);
        return;
      }
      if (rocks[r] >= 5) {
        t.strokes -= Integer.lowestOneBit(t.strokes);
      }
      to(t, t.length + rocks[r] + in(1, r, -1).size() >= 16 ? 2 : 1, r);
    }

    void breakJam(int r) {
      for (Trunk t : in(2, r, -1)) {
        to(t, 1, r);
      }
    }

    int day(int melt) {
      now++;
      water[0] += melt;
      for (int r = 5; r >= 0; r--) {
        flow[r] = Math.min(water[r], gate[r] * 10);
        water[r] -= flow[r];
        water[r + 1] += flow[r];
      }
      for (int r = 0; r < 6; r++) {
        List<Trunk> jam = in(2, r, -1);
        if (!jam.isEmpty() && water[r] >= 4 * jam.size() + 2 * jam.get(0).girth) {
          breakJam(r);
        }
      }
      int came = 0;
      for (int r = 5; r >= 0; r--) {
        int left = flow[r] / 4;
        for (Trunk t : in(1, r, -1)) {
          if (left > 0 && t.girth * 2 <= flow[r]) {
            left--;
            if (r < 5) {
              come(t, r + 1);
            } else if (in(5, -1, -1).size() < room) {
              to(t, 5, -1);
              came++;
            } else {
              to(t, 3, 5);
            }
          }
        }
      }
      for (Trunk t : logs) {
        if (t.place == 1 || t.place == 2 || t.place == 5 || t.place == 6 || t.place == 7) {
          t.soaked += t.kind == 2 ? 2 : 1;
          if (t.soaked >= new int[] {24, 18, 14}[t.kind]) {
            to(t, 4, t.reach < 0 ? 5 : t.reach);
            t.sank = now;
          }
        } else if (t.place == 3 && t.soaked > 0) {
          t.soaked--;
        }
      }
      for (Trunk t : logs) {
        if (t.place == 8 && t.due == now) {
          t.place = 9;
          money[t.owner] += now > t.lastDay ? t.scale(0) * t.price / 2 : t.scale(0) * t.price;
        }
      }
      costs += crew;
      return came;
    }

    int days(int melt, int days) {
      int came = 0;
      for (int k = 0; k < days; k++) {
        came += day(melt);
      }
      return came;
    }

    int whose(Trunk t) {
      int found = -1;
      int many = 0;
      for (int o = 0; o < 4; o++) {
        if (t.strokes != 0 && (t.strokes | mark[o]) == mark[o]) {
          found = o;
          many++;
        }
      }
      return many == 1 ? found : -1;
    }

    static void index(int k, int size) {
      if (k < 0 || k >= size) {
        throw new IndexOutOfBoundsException();
      }
    }

    static void argument(int v, int least, int most) {
      if (v < least || v > most) {
        throw new IllegalArgumentException();
      }
    }

    static void state(boolean fine) {
      if (!fine) {
        throw new IllegalStateException();
      }
    }

    static int swap(int[] row, int k, int v) {
      int before = row[k];
      row[k] = v;
      return before;
    }

    Object call(int[] a) {
      return a[0] <= 9 ? told(a) : a[0] <= 18 ? done(a) : asked(a);
    }

    private Object told(int[] a) {
      switch (a[0]) {
        case 0:
          index(a[1], 4);
          argument(a[2], 0, 63);
          return swap(mark, a[1], a[2]);
        case 1:
          index(a[1], 6);
          argument(a[2], 0, 9);
          return swap(rocks, a[1], a[2]);
        case 2:
          index(a[1], 6);
          argument(a[2], 0, 3);
          return swap(gate, a[1], a[2]);
        case 3: return fell(a);
        case 4: {
          index(a[1], logs.size());
          argument(a[2], 0, 63);
          Trunk t = logs.get(a[1]);
          state(t.place == 0 || t.place == 3);
          int before = t.strokes;
          t.strokes = a[2];
          return before;
        }
        case 5: {
          argument(a[1], 0, 40);
          int before = room;
          room = a[1];
          return before;
        }
        case 6: {
          argument(a[1], 0, 20);
          int before = crew;
          crew = a[1];
          return before;
        }
        case 7:
          argument(a[1], 0, 2);
          argument(a[2], 3, 9);
          argument(a[3], 1, 9);
          argument(a[4], 0, 60);
          state(orders.size() < 6);
          orders.add(new int[] {a[1], a[2], a[3], now + a[4]});
          return orders.size() - 1;
        case 8: {
          index(a[1], 6);
          int many = 0;
          for (Trunk t : logs) {
            if (t.place == 0 && t.reach == a[1]) {
              come(t, a[1]);
              many++;
            }
          }
          return many;
        }
        default:
          argument(a[1], 0, 40);
          argument(a[2], 1, 20);
          return days(a[1], a[2]);
      }
    }

    private int fell(int[] a) {
      index(a[1], 4);
      index(a[2], 6);
      argument(a[3], 0, 2);
      argument(a[4], 3, 9);
      argument(a[5], 1, 9);
      state(logs.size() < 40);
      Trunk t = new Trunk();
      t.strokes = mark[a[1]];
      t.reach = a[2];
      t.kind = a[3];
      t.length = a[4];
      t.girth = a[5];
      logs.add(t);
      return logs.size() - 1;
    }

    private Object done(int[] a) {
      switch (a[0]) {
        case 10: {
          index(a[1], 6);
          List<Trunk> jam = in(2, a[1], -1);
          state(!jam.isEmpty());
          if (crew < jam.get(0).girth + jam.size() / 4) {
            return -2;
          }
          breakJam(a[1]);
          return jam.size();
        }
        case 11: {
          index(a[1], 6);
          List<Trunk> jam = in(2, a[1], -1);
          state(!jam.isEmpty());
          costs += 8;
          to(jam.get(0), 10, -1);
          breakJam(a[1]);
          for (Trunk t : jam.subList(1, jam.size())) {
            t.strokes -= Integer.highestOneBit(t.strokes);
          }
          return logs.indexOf(jam.get(0));
        }
        case 12: {
          index(a[1], logs.size());
          Trunk t = logs.get(a[1]);
          state(t.place == 3);
          costs++;
          come(t, t.reach);
          return t.place;
        }
        case 13: {
          argument(a[1], 1, 9);
          List<Trunk> boom = in(5, -1, -1);
          int many = Math.min(boom.size(), a[1]);
          for (Trunk t : boom.subList(boom.size() - many, boom.size())) {
            to(t, 3, 5);
          }
          return many;
        }
        case 14: return sort(a[1]);
        case 15: return share();
        case 16: return settle(a[1]);
        case 17: return raft(a[1], a[2], a[3]);
        default: {
          index(a[1], logs.size());
          index(a[2], 4);
          Trunk t = logs.get(a[1]);
          state(t.place == 4);
          money[a[2]] -= 4;
          to(t, 3, t.reach);
          t.soaked = 0;
          if (t.strokes == 0 || t.sank + 10 <= now) {
            t.strokes = mark[a[2]];
          }
          return whose(t);
        }
      }
    }

    private int sort(int many) {
      argument(many, 1, 40);
      int pool = 0;
      for (Trunk t : in(5, -1, -1)) {
        if (many-- > 0) {
          costs++;
          t.owner = whose(t);
          if (t.owner >= 0) {
            to(t, 6, -1);
            sorted[t.owner] += t.scale(0);
          } else {
            to(t, 7, -1);
            pool++;
          }
        }
      }
      return pool;
    }

    private int share() {
      List<Trunk> pool = in(7, -1, -1);
      for (Trunk t : pool) {
        int best = -1;
        for (int o = 3; o >= 0; o--) {
          if (best < 0 || sorted[o] - pooled[o] * 30 >= sorted[best] - pooled[best] * 30) {
            best = o;
          }
        }
        pooled[best]++;
        t.owner = best;
        to(t, 6, -1);
      }
      return pool.size();
    }

    private int settle(int rule) {
      argument(rule, 0, 2);
      long[] held = new long[4];
      long all = 0;
      for (Trunk t : logs) {
        if (t.place == 6 || t.place == 8 || t.place == 9) {
          held[t.owner] += t.scale(rule);
          all += t.scale(rule);
        }
      }
      int ahead = costs;
      for (int o = 0; o < 4 && all > 0; o++) {
        long paid = ahead * held[o] / all;
        money[o] -= (int) paid;
        costs -= (int) paid;
      }
      return costs;
    }

    private int raft(int owner, int order, int most) {
      index(owner, 4);
      index(order, orders.size());
      argument(most, 1, 6);
      int[] o = orders.get(order);
      List<Trunk> on = new ArrayList<>();
      for (Trunk t : in(6, -1, owner)) {
        if (t.kind == o[0] && t.length >= o[1] && on.size() < most) {
          on.add(t);
        }
      }
      if (on.isEmpty()) {
        return -2;
      }
      int due = now + 2 + on.size() / 3;
      for (Trunk t : on) {
        to(t, 8, -1);
        t.due = due;
        t.price = o[2];
        t.lastDay = o[3];
      }
      rafts.add(due);
      return on.size();
    }

    private Object asked(int[] a) {
      switch (a[0]) {
        case 19:
          index(a[1], 4);
          argument(a[2], 0, 7);
          return ofOwner(a[1], a[2]);
        case 20:
          index(a[1], 6);
          argument(a[2], 0, 9);
          return ofReach(a[1], a[2]);
        case 21:
          index(a[1], logs.size());
          argument(a[2], 0, 8);
          return ofLog(logs.get(a[1]), a[2]);
        case 22:
          index(a[1] + 1, 7);
          argument(a[2], 0, Integer.MAX_VALUE);
          return row(a[1], a[2]);
        case 23:
          index(a[1], logs.size());
          argument(a[2], 0, 2);
          return logs.get(a[1]).scale(a[2]);
        case 24:
          argument(a[1], 0, 18);
          return many(a[1]);
        case 25: return mean();
        case 26:
          argument(a[1], 0, 40);
          argument(a[2], 1, 20);
          return forecast().days(a[1], a[2]);
        case 27:
          index(a[1], 6);
          argument(a[2], 0, 40);
          return freeIn(a[1], a[2]);
        default:
          index(a[1], 6);
          argument(a[2], 0, 40);
          argument(a[3], 1, 20);
          return bestGate(a[1], a[2], a[3]);
      }
    }

    private int first(List<Trunk> line, int k) {
      return k < line.size() ? logs.indexOf(line.get(k)) : -1;
    }

    private int ofOwner(int o, int what) {
      switch (what) {
        case 0: return mark[o];
        case 1: return money[o];
        case 2: return in(6, -1, o).size();
        case 3: return first(in(6, -1, o), 0);
        case 4: return in(8, -1, o).size();
        case 5: return in(9, -1, o).size();
        case 6: return pooled[o];
        default: return sorted[o];
      }
    }

    private int ofReach(int r, int what) {
      switch (what) {
        case 0: return water[r];
        case 1: return gate[r];
        case 2: return rocks[r];
        case 3: return flow[r];
        case 4: return in(1, r, -1).size();
        case 5: return in(2, r, -1).size();
        case 6: return first(in(2, r, -1), 0);
        case 7: return in(3, r, -1).size();
        case 8: return in(4, r, -1).size();
        default: return in(0, r, -1).size();
      }
    }

    private int ofLog(Trunk t, int what) {
      return new int[] {
        t.place, t.reach, t.kind, t.length, t.girth, t.strokes, t.soaked, whose(t), t.sank}[what];
    }

    private int row(int r, int k) {
      return first(r < 0 ? in(5, -1, -1) : in(1, r, -1), k);
    }

    private int many(int what) {
      int found = 0;
      switch (what) {
        case 0: return now;
        case 12: return room;
        case 13: return crew;
        case 14: return costs;
        case 15:
          for (int due : rafts) {
            found += due > now ? 1 : 0;
          }
          return found;
        case 16: return orders.size();
        case 17: return water[0] + water[1] + water[2] + water[3] + water[4] + water[5];
        case 18:
          for (Trunk t : logs) {
            found += whose(t) < 0 ? 1 : 0;
          }
          return found;
        default: return in(what - 1, -1, -1).size();
      }
    }

    private double mean() {
      double sum = 0;
      int many = 0;
      for (Trunk t : logs) {
        if (t.place < 9) {
          sum += t.soaked;
          many++;
        }
      }
      return many == 0 ? 0 : sum / many;
    }

    private int freeIn(int r, int melt) {
      Model m = forecast();
      for (int d = 0; d <= 20; d++) {
        if (m.in(2, r, -1).isEmpty()) {
          return d;
        }
        m.day(melt);
      }
      return -1;
    }

    private int bestGate(int r, int melt, int days) {
      int[] came = new int[4];
      for (int g = 0; g < 4; g++) {
        Model m = forecast();
        m.gate[r] = g;
        came[g] = m.days(melt, days);
      }
      int most = Math.max(Math.max(came[0], came[1]), Math.max(came[2], came[3]));
      for (int g = 0; g < 4; g++) {
        if (came[g] == most) {
          return g;
        }
      }
      return -1;
    }

    long digest() {
      long d = 58191;
      for (int w = 0; w <= 18; w++) {
        d = d * 31 + many(w);
      }
      for (int o = 0; o < 4; o++) {
        for (int w = 0; w <= 7; w++) {
          d = d * 31 + ofOwner(o, w);
        }
      }
      for (int r = 0; r < 6; r++) {
        for (int w = 0; w <= 9; w++) {
          d = d * 31 + ofReach(r, w);
        }
        for (int k = 0; k <= 2; k++) {
          d = d * 31 + row(r, k);
        }
        d = d * 31 + freeIn(r, 20);
      }
      for (Trunk t : logs) {
        for (int w = 0; w <= 8; w++) {
          d = d * 31 + ofLog(t, w);
        }
        for (int w = 0; w <= 2; w++) {
          d = d * 31 + t.scale(w);
        }
      }
      for (int k = 0; k <= 3; k++) {
        d = d * 31 + row(-1, k);
      }
      d = d * 31 + forecast().days(20, 6);
      return d * 31 + bestGate(5, 10, 4);
    }
  }
}
