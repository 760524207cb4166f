/**
 * Runs of calls, drawn by a rule that is the same each time, on the class and on
 * SlowYard: each answer must be the same. Ordinary inputs, edges and wrong inputs are all drawn.
 */
public final class SlowYardTest {
  private static final int RUNS = 3000, CALLS = 512;
  private static long seed;
  /** The frame that most calls of a run are about; so each frame has its turn. */
  private static int mainFrame;
  private static int wrong = 0;
  private static final int[] answers = new int[45];
  private static final int[] goods = new int[45];

  private static int draw(int n) {
    seed = seed * 6364136223846793005L + 1442695040888963407L;
    return (int) ((seed >>> 33) % n);
  }

  /** Mostly least .. most, now and then just outside or far from it. */
  private static int near(int least, int most) {
    switch (draw(60)) {
      case 0: return least - 1;
      case 1: return most + 1;
      case 2: return new int[] {Integer.MIN_VALUE, Integer.MAX_VALUE, -1, 0, 1, 1 << 30, 1000000, -7}[draw(8)];
      case 3: return least;
      case 4: return most;
      default: return least + draw(most - least + 1);
    }
  }

  private static int someFrame(int others) { return (mainFrame + (draw(others) == 0 ? 1 : 0)) % 3; }
  private static int frame() { return draw(12) == 0 ? near(0, 2) : someFrame(3); }
  private static int lift() { return draw(5) == 0 ? near(0, 5) : draw(3); }
  private static int bay() { return draw(4) == 0 ? near(0, 10) : draw(5); }
  private static int width() { return draw(6) == 0 ? near(1, 100) : 1 + draw(4); }
  private static int piece() { return near(0, 395); }

  private static int drop(int[] all) { return all[draw(all.length)]; }

  private static final int[] BUILDING = {5, 6, 6, 6, 6, 7, 8, 8, 9, 10, 10, 10, 11, 11, 12, 12, 12, 13, 2, 25, 14};
  private static final int[] ASKING = {3, 4, 15, 16, 17, 18, 19, 20, 20, 21, 21, 22, 23, 24, 26, 27, 27, 30, 32, 36, 39, 41, 42, 43, 43, 44};
  private static final int[] WORKING = {28, 28, 28, 29, 29, 30, 31, 31, 33, 34, 35, 35, 35, 35, 37, 37, 37, 38, 40, 10, 11, 12, 13, 14, 9, 25, 2};

  private static int method(int at) {
    int phase = at % 128;
    int which = draw(10);
    if (which < 4) return drop(ASKING);
    if (phase < 40 ? which < 9 : which < 5) return drop(BUILDING);
    return drop(WORKING);
  }

  private static void same(int run, int at, int m, String call, long got, long want) {
    answers[m]++;
    if (want > -1000000000L) goods[m]++;
    if (got != want) {
      wrong++;
      if (wrong <= 20) System.out.println("run " + run + ", call " + at + ": " + call + " answered " + got + ", due is " + want);
    }
  }

  private static String told(String name, int... args) {
    StringBuilder text = new StringBuilder(name).append('(');
    for (int k = 0; k < args.length; k++) text.append(k == 0 ? "" : ", ").append(args[k]);
    return text.append(')').toString();
  }

  private static void one(int run, int at, ScaffoldYard x, SlowYard y, int m) {
    int f = frame(), l = lift(), b = bay(), w = width(), p = piece(), a;
    switch (m) {
      case 2: {
        int t = near(0, 2), place = near(0, t == 2 ? 6 : 5);
        a = t == 2 ? (draw(3) == 0 ? near(0, 1000000) : draw(400)) : draw(3) == 0 ? near(0, 100) : draw(9);
        same(run, at, m, told("table", t, place, a), x.table(t, place, a), y.table(t, place, a)); return;
      }
      case 3: {
        int len = draw(20) == 0 ? near(-1, 0) * 1001 : 1 + draw(30), gap = near(0, 5), what = near(0, 2), i = near(0, 6);
        if (len > 30 && len <= 1000) return;
        if (gap > 30 && gap < 100) return;
        same(run, at, m, told("fit", len, gap, what, i), x.fit(len, gap, what, i), y.fit(len, gap, what, i)); return;
      }
      case 4: {
        int len = draw(20) == 0 ? near(0, 1) * 401 : 1 + draw(60), lap = near(0, 3), what = near(0, 2), i = near(0, 8);
        same(run, at, m, told("join", len, lap, what, i), x.join(len, lap, what, i), y.join(len, lap, what, i)); return;
      }
      case 5: {
        int lifts = near(1, 6), h = near(1, 20);
        same(run, at, m, told("frame", f, lifts, h, w), x.frame(f, lifts, h, w), y.frame(f, lifts, h, w)); return;
      }
      case 6: a = draw(3) == 0 ? 1 : near(0, 4); same(run, at, m, told("bay", f, a, w), x.bay(f, a, w), y.bay(f, a, w)); return;
      case 7: same(run, at, m, told("drop", f), x.drop(f), y.drop(f)); return;
      case 8: same(run, at, m, told("floor", f, l), x.floor(f, l), y.floor(f, l)); return;
      case 9: same(run, at, m, told("strip", f, l), x.strip(f, l), y.strip(f, l)); return;
      case 10: a = near(-1, 6); same(run, at, m, told("board", f, b, l, a), x.board(f, b, l, a), y.board(f, b, l, a)); return;
      case 11: a = draw(3) == 0 ? near(0, 1) : 1; same(run, at, m, told("brace", f, b, l, a), x.brace(f, b, l, a), y.brace(f, b, l, a)); return;
      case 12: a = draw(3) == 0 ? near(0, 1) : 1; same(run, at, m, told("tie", f, b, l, a), x.tie(f, b, l, a), y.tie(f, b, l, a)); return;
      case 13: a = near(0, 20); same(run, at, m, told("gust", f, a), x.gust(f, a), y.gust(f, a)); return;
      case 14: same(run, at, m, "undo()", x.undo(), y.undo()); return;
      case 15: a = near(0, 7); same(run, at, m, told("about", f, a), x.about(f, a), y.about(f, a)); return;
      case 16: a = near(0, 1); same(run, at, m, told("told", f, b, a), x.told(f, b, a), y.told(f, b, a)); return;
      case 17: a = near(0, 4); same(run, at, m, told("isOf", f, b, a), x.isOf(f, b, a), y.isOf(f, b, a)); return;
      case 18: a = near(0, 2); same(run, at, m, told("plan", f, b, l, a), x.plan(f, b, l, a), y.plan(f, b, l, a)); return;
      case 19: same(run, at, m, told("load", f, b), x.load(f, b), y.load(f, b)); return;
      case 20: a = near(0, 1); same(run, at, m, told("foot", f, b, a), x.foot(f, b, a), y.foot(f, b, a)); return;
      case 21: same(run, at, m, told("wind", f, b, l), x.wind(f, b, l), y.wind(f, b, l)); return;
      case 22: same(run, at, m, told("lost", f), x.lost(f), y.lost(f)); return;
      case 23: same(run, at, m, told("free", f, b), x.free(f, b), y.free(f, b)); return;
      case 24: a = near(0, 1); same(run, at, m, told("over", f, a), x.over(f, a), y.over(f, a)); return;
      case 25: {
        int which = near(0, 2);
        a = draw(2) == 0 && which != 1 ? 0 : near(0, 10);
        same(run, at, m, told("rule", which, a), x.rule(which, a), y.rule(which, a)); return;
      }
      case 26: same(run, at, m, told("breaches", f), x.breaches(f), y.breaches(f)); return;
      case 27: {
        int i = near(0, 12), what = near(0, 2);
        same(run, at, m, told("breach", f, i, what), x.breach(f, i, what), y.breach(f, i, what)); return;
      }
      default: later(run, at, x, y, m, new int[] {f, l, b, w, p}); return;
    }
  }

  private static void later(int run, int at, ScaffoldYard x, SlowYard y, int m, int[] args) {
    int f = args[0], l = args[1], b = args[2], w = args[3], p = args[4], a;
    switch (m) {
      case 28:
        if (draw(2) == 0) p = y.next(f, draw(2) * 2);
        same(run, at, m, told("put", f, p), x.put(f, p), y.put(f, p)); return;
      case 29:
        if (draw(3) == 0) p = y.next(f, 1);
        same(run, at, m, told("take", f, p), x.take(f, p), y.take(f, p)); return;
      case 30: a = near(0, 2); same(run, at, m, told("next", f, a), x.next(f, a), y.next(f, a)); return;
      case 31: {
        int n = draw(3) == 0 ? 400 : draw(2) == 0 ? near(1, 400) : 1 + draw(9);
        a = draw(30) == 0 ? near(0, 1) : draw(4) == 0 ? 0 : 1;
        same(run, at, m, told("go", f, n, a), x.go(f, n, a), y.go(f, n, a)); return;
      }
      case 32: same(run, at, m, told("isUp", f, p), x.isUp(f, p), y.isUp(f, p)); return;
      case 33: a = draw(4) == 0 ? near(0, 1000) : draw(4); same(run, at, m, told("day", a), x.day(a), y.day(a)); return;
      case 34:
        if (draw(3) > 0) return;
        same(run, at, m, "storm()", x.storm(), y.storm()); return;
      case 35: a = near(1, 30); same(run, at, m, told("tag", f, l, a), x.tag(f, l, a), y.tag(f, l, a)); return;
      case 36: same(run, at, m, told("tagged", f, l), x.tagged(f, l), y.tagged(f, l)); return;
      case 37: a = near(0, 9); same(run, at, m, told("enter", a, f, l), x.enter(a, f, l), y.enter(a, f, l)); return;
      case 38: a = near(0, 9); same(run, at, m, told("leave", a), x.leave(a), y.leave(a)); return;
      case 39: same(run, at, m, "stranded()", x.stranded(), y.stranded()); return;
      case 40: {
        int kind = near(0, 5);
        a = draw(4) == 0 ? near(0, 100000) : draw(12);
        same(run, at, m, told("stock", kind, w, a), x.stock(kind, w, a), y.stock(kind, w, a)); return;
      }
      case 41: a = near(0, 5); same(run, at, m, told("wants", f, a, w), x.wants(f, a, w), y.wants(f, a, w)); return;
      case 42: a = near(0, 5); same(run, at, m, told("lacks", a, w), x.lacks(a, w), y.lacks(a, w)); return;
      case 43: {
        int g = frame(), i = near(-1, 5);
        same(run, at, m, told("stays", f, g, i), x.stays(f, g, i), y.stays(f, g, i)); return;
      }
      default: a = near(0, 5); same(run, at, m, told("count", a), x.count(a), y.count(a)); return;
    }
  }

  /** Takes a frame down, if need be, and fills it anew. */
  private static int build(int run, int at, ScaffoldYard x, SlowYard y) {
    int f = someFrame(2);
    if (draw(3) > 0) same(run, at, 31, told("go", f, 400, 0), x.go(f, 400, 0), y.go(f, 400, 0));
    one(run, at + 1, x, y, 7);
    one(run, at + 2, x, y, 5);
    for (int k = 0; k < 8; k++) one(run, at + 3 + k, x, y, 6);
    one(run, at + 11, x, y, 7);
    for (int k = 0; k < 4; k++) one(run, at + 12 + k, x, y, 8);
    for (int k = 0; k < 20; k++) one(run, at + 16 + k, x, y, 10 + draw(4));
    return at + 36;
  }

  /** Makes a tag likely, which calls drawn alone seldom bring about, and lets people go on. */
  private static int settle(int run, int at, ScaffoldYard x, SlowYard y) {
    int f = someFrame(2), a = draw(3), l = draw(2);
    same(run, at, 25, told("rule", 0, a), x.rule(0, a), y.rule(0, a));
    same(run, at + 1, 25, told("rule", 1, 6), x.rule(1, 6), y.rule(1, 6));
    same(run, at + 2, 25, told("rule", 2, 0), x.rule(2, 0), y.rule(2, 0));
    for (int k = 1; k < 7; k++) same(run, at + 2 + k, 2, told("table", 2, k, 500), x.table(2, k, 500), y.table(2, k, 500));
    same(run, at + 9, 31, told("go", f, 400, 1), x.go(f, 400, 1), y.go(f, 400, 1));
    same(run, at + 10, 35, told("tag", f, l, 9), x.tag(f, l, 9), y.tag(f, l, 9));
    same(run, at + 11, 35, told("tag", f, 0, 5), x.tag(f, 0, 5), y.tag(f, 0, 5));
    for (int k = 0; k < 3; k++) {
      a = draw(10);
      same(run, at + 12 + k, 37, told("enter", a, f, l), x.enter(a, f, l), y.enter(a, f, l));
    }
    return at + 15;
  }

  /** After each run all that can be asked is asked, so that no wrong state stays unseen. */
  private static void askAll(int run, ScaffoldYard x, SlowYard y) {
    for (int f = 0; f < 3; f++) {
      for (int p = 0; p < 396; p++) same(run, CALLS, 32, told("isUp", f, p), x.isUp(f, p), y.isUp(f, p));
      for (int l = 0; l < 6; l++) {
        same(run, CALLS, 36, told("tagged", f, l), x.tagged(f, l), y.tagged(f, l));
        for (int b = 0; b < 11; b++) {
          for (int a = 0; a < 3; a++) same(run, CALLS, 18, told("plan", f, b, l, a), x.plan(f, b, l, a), y.plan(f, b, l, a));
          same(run, CALLS, 21, told("wind", f, b, l), x.wind(f, b, l), y.wind(f, b, l));
        }
      }
      for (int b = 0; b < 11; b++) {
        for (int a = 0; a < 2; a++) same(run, CALLS, 20, told("foot", f, b, a), x.foot(f, b, a), y.foot(f, b, a));
      }
    }
  }

  public static void main(String[] args) {
    for (int run = 0; run < RUNS; run++) {
      seed = run * 7919L + 17;
      mainFrame = run % 3;
      draw(9);
      ScaffoldYard x = new ScaffoldYard();
      SlowYard y = new SlowYard();
      for (int at = 0; at < CALLS - 60; at++) {
        if (at % 120 == 5) at = build(run, at, x, y);
        if (draw(60) == 0) at = settle(run, at, x, y);
        one(run, at, x, y, method(at));
      }
      if (run % 50 == 0) askAll(run, x, y);
    }
    // A call whose answers are hardly ever good would test nothing.
    for (int m = 2; m <= 44; m++) {
      if (goods[m] < 500) {
        wrong++;
        System.out.println("promise " + m + " was drawn too seldom: " + goods[m] + " good answers of " + answers[m]);
      }
    }
    System.out.println(wrong == 0 ? "all answers are as SlowYard's" : wrong + " answers are not as SlowYard's");
    if (wrong != 0) System.exit(1);
  }
}
