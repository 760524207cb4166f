/**
 * The refusals of each promise, in the document's order: each by itself, just outside of its
 * range and far from it; where several meet, the one that stands first; and a refused call
 * changes nothing. NONE is looked at behind all of them.
 */
public final class RefusalsTest {
  private static final int BAD = ScaffoldYard.BAD, NO = ScaffoldYard.NO, FULL = ScaffoldYard.FULL;
  private static final int NOTHING = ScaffoldYard.NOTHING, INDEX = ScaffoldYard.INDEX, NONE = ScaffoldYard.NONE;
  private static final int LEAST = Integer.MIN_VALUE, MOST = Integer.MAX_VALUE;

  /**
   * Frame 0 has three lifts and five bays (two gates among them, so that standard 2 has no foot),
   * and nothing is up; frame 1 is missing; frame 2 is all up and tagged, with person 4 on it.
   */
  private static void yard(ScaffoldYard x) {
    x.table(0, 0, 7);
    x.table(0, 5, 3);
    x.table(1, 2, 6);
    x.table(1, 5, 4);
    x.table(2, 0, 900);
    x.rule(1, 2);
    x.stock(0, 2, 5);
    x.stock(5, 100, 9);
    x.day(3);
    x.frame(0, 3, 2, 4);
    x.bay(0, 1, 5);
    x.bay(0, 1, 6);
    x.bay(0, 2, 3);
    x.bay(0, 4, 2);
    x.frame(2, 1, 1, 1);
    x.bay(2, 0, 4);
    x.go(2, 400, 1);
    x.tag(2, 0, 9);
    x.enter(4, 2, 0);
    x.floor(0, 0);
    x.floor(0, 1);
    x.board(0, 0, 0, 2);
    x.board(0, 4, 1, 5);
    x.brace(0, 0, 0, 1);
    x.tie(0, 0, 0, 1);
    x.tie(0, 5, 2, 1);
    x.gust(0, 7);
  }

  private static Refusals of(String name, Refusals.Call call, int... good) {
    return new Refusals(name, RefusalsTest::yard, call, good);
  }

  private static Refusals behind(String name, Deed more, Refusals.Call call, int... good) {
    Deed made = RefusalsTest::yard;
    return new Refusals(name, made.then(more), call, good);
  }

  private static void sizes() {
    Refusals.Call table = (x, a) -> x.table(a[0], a[1], a[2]);
    of("2 table 0", table, 0, 0, 5).outside(BAD, "table", 0, 0, 2).outside(BAD, "place", 1, 0, 5).outside(BAD, "size", 2, 0, 100).check(7);
    of("2 table 1", table, 1, 2, 5).outside(BAD, "table", 0, 0, 2).outside(BAD, "place", 1, 0, 5).outside(BAD, "size", 2, 0, 100).check(6);
    of("2 table 2", table, 2, 0, 5).outside(BAD, "table", 0, 0, 2).outside(BAD, "place", 1, 0, 6).outside(BAD, "number", 2, 0, 1000000).check(900);

    of("3 fit", (x, a) -> x.fit(a[0], a[1], a[2], a[3]), 10, 1, 2, 1)
        .outside(BAD, "length", 0, 1, 1000).outside(BAD, "gap", 1, 0, 99).outside(BAD, "what", 2, 0, 2).below(BAD, "i", 3, 0)
        .behind(NONE, "no such row", 0, x -> { x.table(0, 0, 0); x.table(0, 5, 0); })
        .when(NONE, "not so many", 3, 2, 3, MOST).check(3);
    of("4 join", (x, a) -> x.join(a[0], a[1], a[2], a[3]), 9, 1, 2, 1)
        .outside(BAD, "length", 0, 1, 400).outside(BAD, "lap", 1, 0, 50).outside(BAD, "what", 2, 0, 2).below(BAD, "i", 3, 0)
        .behind(NONE, "no such row", 0, x -> { x.table(1, 2, 0); x.table(1, 5, 0); })
        .when(NONE, "not so many", 3, 2, 3, MOST).check(4);
  }

  private static void bays() {
    of("5 frame", (x, a) -> x.frame(a[0], a[1], a[2], a[3]), 0, 2, 3, 4)
        .outside(BAD, "frame", 0, 0, 2).outside(BAD, "lifts", 1, 1, 6).outside(BAD, "height", 2, 1, 20).outside(BAD, "width", 3, 1, 100)
        .behind(NO, "a piece is up", 2, x -> x.put(0, 0))
        .behind(NO, "someone is on it", 1, x -> { x.go(0, 400, 1); x.tag(0, 2, 1); x.enter(9, 0, 2); x.go(0, 400, 0); })
        .check(0);
    of("6 bay", (x, a) -> x.bay(a[0], a[1], a[2]), 0, 0, 4)
        .outside(BAD, "frame", 0, 0, 2).outside(BAD, "kind", 1, 0, 4).outside(BAD, "width", 2, 1, 100)
        .when(NO, "missing", 0, 1)
        .behind(NO, "a piece is up", 2, x -> x.put(0, 5))
        .behind(FULL, "ten bays", 1, x -> { for (int k = 5; k < 10; k++) Due.is("6 room", x.bay(0, 0, 1), k); })
        .check(5);
    of("7 drop", (x, a) -> x.drop(a[0]), 0)
        .outside(BAD, "frame", 0, 0, 2)
        .when(NO, "missing", 0, 1)
        .behind(NO, "one bay", 1, x -> { for (int k = 0; k < 4; k++) x.drop(0); })
        .behind(NO, "a piece is up", 2, x -> x.put(0, 0))
        .check(2);
  }

  private static void plans() {
    of("8 floor", (x, a) -> x.floor(a[0], a[1]), 0, 2)
        .outside(BAD, "frame", 0, 0, 2).when(NO, "missing", 0, 1).outside(INDEX, "lift", 1, 0, 2).check(1);
    of("9 strip", (x, a) -> x.strip(a[0], a[1]), 0, 1)
        .outside(BAD, "frame", 0, 0, 2).when(NO, "missing", 0, 1).outside(INDEX, "lift", 1, 0, 2)
        .behind(NOTHING, "the row is missing", 1, x -> x.strip(0, 1))
        .behind(NO, "boards are up", 2, x -> x.go(0, 400, 1))
        .check(1);
    of("10 board", (x, a) -> x.board(a[0], a[1], a[2], a[3]), 0, 4, 1, 3)
        .outside(BAD, "frame", 0, 0, 2).outside(BAD, "class", 3, -1, 6).when(NO, "missing", 0, 1).outside(INDEX, "lift", 2, 0, 2)
        .behind(NOTHING, "the row is missing", 1, x -> { x.strip(0, 0); x.strip(0, 1); })
        .outside(INDEX, "bay", 1, 0, 4)
        .whenAll(NO, "a gate at lift 0", new int[] {1, 2}, new int[] {1, 0}, new int[] {2, 0})
        .behind(NO, "the boards are up", 2, x -> x.go(0, 400, 1))
        .check(5);
    of("11 brace", (x, a) -> x.brace(a[0], a[1], a[2], a[3]), 0, 0, 0, 0)
        .outside(BAD, "frame", 0, 0, 2).outside(BAD, "on", 3, 0, 1).when(NO, "missing", 0, 1)
        .outside(INDEX, "lift", 2, 0, 2).outside(INDEX, "bay", 1, 0, 4)
        .whenAll(NO, "a gate at lift 0", new int[] {1, 2}, new int[] {1, 0}, new int[] {2, 0})
        .behind(NO, "the brace is up", 1, x -> x.go(0, 400, 1))
        .check(1);
    of("12 tie", (x, a) -> x.tie(a[0], a[1], a[2], a[3]), 0, 5, 2, 0)
        .outside(BAD, "frame", 0, 0, 2).outside(BAD, "on", 3, 0, 1).when(NO, "missing", 0, 1)
        .outside(INDEX, "lift", 2, 0, 2).outside(INDEX, "standard", 1, 0, 5)
        .whenAll(NO, "no foot, lift 0", new int[] {1, 2}, new int[] {2, 0})
        .behind(NO, "the tie is up", 1, x -> x.go(0, 400, 1))
        .check(1);
    of("13 gust", (x, a) -> x.gust(a[0], a[1]), 0, 5)
        .outside(BAD, "frame", 0, 0, 2).outside(BAD, "wind", 1, 0, 20).when(NO, "missing", 0, 1).check(7);
    behind("14 undo", x -> x.tie(0, 1, 1, 1), (x, a) -> x.undo())
        .behind(NO, "none is kept", 1, x -> x.bay(0, 0, 1))
        .behind(NO, "what it added is up", 2, x -> x.go(0, 400, 1))
        .check(4);
    behind("14 undo of a brace", x -> x.brace(0, 3, 2, 1), (x, a) -> x.undo()).behind(NO, "it is up", 1, x -> x.go(0, 400, 1)).check(4);
    behind("14 undo of boards", x -> x.board(0, 3, 0, 0), (x, a) -> x.undo()).behind(NO, "they are up", 1, x -> x.go(0, 400, 1)).check(4);
  }

  private static void questions() {
    of("15 about", (x, a) -> x.about(a[0], a[1]), 0, 3)
        .outside(BAD, "frame", 0, 0, 2).outside(BAD, "what", 1, 0, 7).when(NO, "missing", 0, 1).check(20);
    of("16 told", (x, a) -> x.told(a[0], a[1], a[2]), 0, 4, 0)
        .outside(BAD, "frame", 0, 0, 2).outside(BAD, "what", 2, 0, 1).when(NO, "missing", 0, 1).outside(INDEX, "bay", 1, 0, 4).check(4);
    of("17 isOf", (x, a) -> x.isOf(a[0], a[1], a[2]), 0, 4, 2)
        .outside(BAD, "frame", 0, 0, 2).outside(BAD, "kind", 2, 0, 4).when(NO, "missing", 0, 1).outside(INDEX, "bay", 1, 0, 4).check(1);
    int[] last = {4, 4, 5};
    int[][] good = {{0, 4, 1}, {0, 0, 0}, {0, 5, 2}};
    for (int what = 0; what < 3; what++) {
      of("18 plan", (x, a) -> x.plan(a[0], a[1], a[2], a[3]), good[what][0], good[what][1], good[what][2], what)
          .outside(BAD, "frame", 0, 0, 2).outside(BAD, "what", 3, 0, 2).when(NO, "missing", 0, 1)
          .outside(INDEX, "place", 1, 0, last[what]).outside(INDEX, "lift", 2, 0, 2).check(what == 0 ? 5 : 1);
    }
  }

  private static void loads() {
    of("19 load", (x, a) -> x.load(a[0], a[1]), 0, 5)
        .outside(BAD, "frame", 0, 0, 2).when(NO, "missing", 0, 1).outside(INDEX, "standard", 1, 0, 5).check(12 + 14);
    of("20 foot", (x, a) -> x.foot(a[0], a[1], a[2]), 0, 5, 0)
        .outside(BAD, "frame", 0, 0, 2).outside(BAD, "part", 2, 0, 1).when(NO, "missing", 0, 1).outside(INDEX, "standard", 1, 0, 5)
        .when(NONE, "no foot", 1, 2).check(13);
    of("21 wind", (x, a) -> x.wind(a[0], a[1], a[2]), 0, 5, 2)
        .outside(BAD, "frame", 0, 0, 2).when(NO, "missing", 0, 1).outside(INDEX, "standard", 1, 0, 5).outside(INDEX, "lift", 2, 0, 2).check(84);
    of("22 lost", (x, a) -> x.lost(a[0]), 0).outside(BAD, "frame", 0, 0, 2).when(NO, "missing", 0, 1).check(0);
    of("23 free", (x, a) -> x.free(a[0], a[1]), 0, 5)
        .outside(BAD, "frame", 0, 0, 2).when(NO, "missing", 0, 1).outside(INDEX, "standard", 1, 0, 5).check(3);
    of("24 over", (x, a) -> x.over(a[0], a[1]), 0, 1)
        .outside(BAD, "frame", 0, 0, 2).outside(BAD, "what", 1, 0, 1).when(NO, "missing", 0, 1).check(0);
  }

  private static void rules() {
    Refusals.Call rule = (x, a) -> x.rule(a[0], a[1]);
    of("25 rule A", rule, 0, 4).outside(BAD, "which", 0, 0, 2).outside(BAD, "v", 1, 0, 9).check(0);
    of("25 rule B", rule, 1, 4).outside(BAD, "which", 0, 0, 2).outside(BAD, "v", 1, 1, 6).check(2);
    of("25 rule C", rule, 2, 4).outside(BAD, "which", 0, 0, 2).outside(BAD, "v", 1, 0, 10).check(0);
    // Of fifteen bays and lifts one has a brace, and two are gates at lift 0.
    of("26 breaches", (x, a) -> x.breaches(a[0]), 0).outside(BAD, "frame", 0, 0, 2).when(NO, "missing", 0, 1).check(0);
    behind("27 breach", x -> x.rule(2, 1), (x, a) -> x.breach(a[0], a[1], a[2]), 0, 11, 2)
        .outside(BAD, "frame", 0, 0, 2).below(BAD, "i", 1, 0).outside(BAD, "what", 2, 0, 2).when(NO, "missing", 0, 1)
        .when(NONE, "not so many", 1, 12, 13, MOST).check(4);
  }

  private static void pieces() {
    int[] none = {-1, 396, LEAST, MOST, 2, 6, 33, 66 + 1, 66 + 5, 132 + 1, 198 + 4, 264 + 1, 330, 330 + 3, 330 + 12, 395};
    behind("28 put", x -> x.put(0, 0), (x, a) -> x.put(a[0], a[1]), 0, 1)
        .outside(BAD, "frame", 0, 0, 2).when(NO, "missing", 0, 1).when(BAD, "no such piece", 1, none)
        .when(NO, "it is up", 1, 0).when(NO, "what it needs is not up", 1, 12, 13, 66, 66 + 11, 132, 198, 264 + 22 + 5, 331, 332).check(2);
    behind("29 take", x -> { x.put(0, 0); x.put(0, 11); x.put(0, 1); x.put(0, 66); }, (x, a) -> x.take(a[0], a[1]), 0, 66)
        .outside(BAD, "frame", 0, 0, 2).when(NO, "missing", 0, 1).when(BAD, "no such piece", 1, none)
        .when(NO, "it is not up", 1, 3, 12, 22, 132, 331).when(NO, "it is needed", 1, 0, 1).check(3);
    of("30 next", (x, a) -> x.next(a[0], a[1]), 0, 0)
        .outside(BAD, "frame", 0, 0, 2).outside(BAD, "what", 1, 0, 2).when(NO, "missing", 0, 1)
        .behind(NONE, "all is up", 1, x -> x.go(0, 400, 1)).check(0);
    of("30 next", (x, a) -> x.next(a[0], a[1]), 2, 1)
        .outside(BAD, "frame", 0, 0, 2).outside(BAD, "what", 1, 0, 2).when(NO, "missing", 0, 1)
        .behind(NONE, "nothing is up", 1, x -> x.go(2, 400, 0)).check(67);
    for (int on = 0; on < 2; on++) {
      of("31 go", (x, a) -> x.go(a[0], a[1], a[2]), 2 - 2 * on, 2, on)
          .outside(BAD, "frame", 0, 0, 2).outside(BAD, "n", 1, 1, 400).outside(BAD, "on", 2, 0, 1).when(NO, "missing", 0, 1).check(2);
    }
    behind("32 isUp", x -> x.put(0, 0), (x, a) -> x.isUp(a[0], a[1]), 0, 0)
        .outside(BAD, "frame", 0, 0, 2).when(NO, "missing", 0, 1).when(NONE, "no such piece", 1, none).check(1);
  }

  private static void days() {
    of("33 day", (x, a) -> x.day(a[0]), 5).outside(BAD, "n", 0, 0, 1000).check(8);
    behind("35 tag", x -> x.go(0, 400, 1), (x, a) -> x.tag(a[0], a[1], a[2]), 0, 1, 5)
        .outside(BAD, "frame", 0, 0, 2).outside(BAD, "n", 2, 1, 30).when(NO, "missing", 0, 1).outside(INDEX, "lift", 1, 0, 2)
        .behind(NO, "a piece is not up", 1, x -> x.take(0, 264))
        .behind(NO, "a breach", 2, x -> x.rule(2, 1))
        .behind(NO, "a standard is over", 3, x -> x.table(2, 3, 0))
        .check(7);
    of("36 tagged", (x, a) -> x.tagged(a[0], a[1]), 2, 0)
        .outside(BAD, "frame", 0, 0, 2).when(NO, "missing", 0, 1).outside(INDEX, "lift", 1, 0, 0)
        .behind(NONE, "not tagged", 1, x -> x.storm()).check(11);
    of("37 enter", (x, a) -> x.enter(a[0], a[1], a[2]), 0, 2, 0)
        .outside(BAD, "person", 0, 0, 9).outside(BAD, "frame", 1, 0, 2).when(NO, "missing", 1, 1).outside(INDEX, "lift", 2, 0, 0)
        .behind(NO, "not tagged", 1, x -> x.storm()).when(NO, "not away", 0, 4).check(2);
    of("38 leave", (x, a) -> x.leave(a[0]), 4).outside(BAD, "person", 0, 0, 9).when(NO, "away", 0, 0, 3, 5, 9).check(20);
  }

  private static void rest() {
    of("40 stock", (x, a) -> x.stock(a[0], a[1], a[2]), 5, 100, 6)
        .outside(BAD, "kind", 0, 0, 5).outside(BAD, "width", 1, 1, 100).outside(BAD, "v", 2, 0, 100000).check(9);
    of("41 wants", (x, a) -> x.wants(a[0], a[1], a[2]), 0, 0, 2)
        .outside(BAD, "frame", 0, 0, 2).outside(BAD, "kind", 1, 0, 5).outside(BAD, "width", 2, 1, 100).when(NO, "missing", 0, 1).check(17);
    of("42 lacks", (x, a) -> x.lacks(a[0], a[1]), 0, 2).outside(BAD, "kind", 0, 0, 5).outside(BAD, "width", 1, 1, 100).check(12);
    of("43 stays", (x, a) -> x.stays(a[0], a[1], a[2]), 0, 2, 0)
        .outside(BAD, "frame", 0, 0, 2).outside(BAD, "other frame", 1, 0, 2).below(BAD, "i", 2, -1)
        .when(NO, "missing", 0, 1).when(NO, "the other is missing", 1, 1).when(NONE, "not so many", 2, 1, MOST).check(0);
    of("44 count", (x, a) -> x.count(a[0]), 1).outside(BAD, "what", 0, 0, 5).check(5);
  }

  /** Calls that only ask change nothing, as they are answered. */
  private static void asking() {
    Deed made = RefusalsTest::yard;
    Deed[] asked = {
      x -> { x.fit(10, 1, 2, 1); x.join(9, 1, 2, 1); },
      x -> { x.about(0, 7); x.told(0, 4, 1); x.isOf(0, 4, 2); x.plan(0, 5, 2, 2); },
      x -> { x.load(0, 5); x.foot(0, 1, 0); x.wind(0, 5, 2); x.lost(0); x.free(0, 5); x.over(0, 0); x.over(0, 1); },
      x -> { x.breaches(0); x.breach(0, 0, 0); },
      x -> { x.next(0, 0); x.next(2, 1); x.next(0, 2); x.isUp(0, 0); },
      x -> { x.day(0); x.tagged(2, 0); x.stranded(); },
      x -> { x.wants(0, 0, 2); x.lacks(0, 2); x.stays(0, 2, 0); x.stays(2, 0, -1); x.count(1); },
    };
    View was = View.of(made);
    for (int k = 0; k < asked.length; k++) {
      String other = View.of(made.then(asked[k])).otherThan(was);
      Due.is("asking " + k + " changes nothing: " + other, other == null ? 0 : 1, 0);
    }
  }

  public static void main(String[] args) {
    sizes();
    bays();
    plans();
    questions();
    loads();
    rules();
    pieces();
    days();
    rest();
    asking();
    Due.end();
  }
}
