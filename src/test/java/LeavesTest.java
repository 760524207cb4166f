import java.util.ArrayList;
import java.util.List;

/**
 * What each call leaves as it was, and what it is not refused by. The document tells all that
 * a call changes and all that it is refused by; here each call is answered in a yard in which
 * much goes on, all that can be asked is asked ahead of it and behind it, and only what the
 * document names may be otherwise then.
 */
public final class LeavesTest {
  private static final int NO = ScaffoldYard.NO, NONE = ScaffoldYard.NONE;
  private static final int LEDGER = 66, BRACE = 132, BOARDS = 198, TIE = 264;
  private static final int GATE = 1, LOADING = 2, HUNG = 3, NETTED = 4;

  /** What follows from bays, plans, pieces, tags and rules: other tests reckon it. */
  private static final String FOLLOWS = "(about\\[\\d, [456]\\]|count\\[[012]\\]|(stranded|next|go|wants|load|foot|free|wind|over|lost|breaches|breach|isOf)\\[).*";

  /**
   * All lifts of frame 0 were up and tagged, then its plan got more; nothing of frame 1 is up,
   * but someone is on it still; frame 2 is up in part. Standards and ties are over, rules are
   * broken, wind is lost, and five changes are kept.
   */
  private static void busy(ScaffoldYard x) {
    first(x);
    second(x);
    third(x);
    x.table(0, 0, 7);
    x.table(0, 5, 3);
    x.table(1, 2, 6);
    x.table(1, 5, 4);
    x.table(2, 0, 30);
    x.table(2, 2, 11);
    x.table(2, 3, 12);
    x.table(2, 6, 120);
    x.rule(0, 2);
    x.rule(1, 2);
    x.rule(2, 2);
    x.stock(0, 2, 5);
    x.stock(4, 1, 2);
    x.stock(5, 100, 9);
    x.gust(0, 7);
    x.brace(0, 3, 1, 1);
    x.board(0, 0, 2, 3);
    x.tie(0, 4, 2, 1);
    x.gust(2, 20);
  }

  private static void first(ScaffoldYard x) {
    x.day(3);
    x.frame(0, 3, 2, 4);
    x.bay(0, GATE, 5);
    x.bay(0, GATE, 6);
    x.bay(0, LOADING, 3);
    x.bay(0, NETTED, 2);
    for (int lift = 0; lift < 3; lift++) {
      x.floor(0, lift);
      x.brace(0, 0, lift, 1);
      x.tie(0, 1, lift, 1);
    }
    x.board(0, 0, 0, 2);
    x.board(0, 4, 1, 5);
    x.go(0, 400, 1);
    x.tag(0, 0, 1);
    x.tag(0, 1, 3);
    x.tag(0, 2, 9);
    x.enter(4, 0, 0);
    x.enter(7, 0, 2);
    x.enter(8, 0, 2);
  }

  private static void second(ScaffoldYard x) {
    x.frame(1, 2, 3, 1);
    x.bay(1, HUNG, 2);
    x.bay(1, NETTED, 3);
    for (int lift = 0; lift < 2; lift++) {
      x.floor(1, lift);
      for (int bay = 0; bay < 3; bay++) {
        x.board(1, bay, lift, bay + lift);
        x.brace(1, bay, lift, 1);
        x.tie(1, bay, lift, 1);
      }
    }
    x.tie(1, 3, 1, 1);
    x.gust(1, 5);
    x.go(1, 400, 1);
    x.tag(1, 1, 30);
    x.enter(9, 1, 1);
    x.go(1, 400, 0);
  }

  private static void third(ScaffoldYard x) {
    x.frame(2, 6, 20, 100);
    x.bay(2, NETTED, 100);
    for (int lift = 1; lift < 6; lift++) {
      x.floor(2, lift);
      x.brace(2, 0, lift, 1);
      x.board(2, 1, lift, 6);
    }
    x.go(2, 10, 1);
  }

  /** As busy, but no rule is broken and no standard is over. */
  private static void sound(ScaffoldYard x) {
    busy(x);
    x.rule(0, 9);
    x.rule(1, 6);
    x.rule(2, 10);
    for (int place = 1; place < 7; place++) x.table(2, place, 1000);
  }

  private interface Call {
    long on(ScaffoldYard x);
  }

  /** Each change must be of one of these patterns, and each pattern be that of a change. */
  private static void changes(String name, Deed made, Call call, long due, String... patterns) {
    ScaffoldYard x = new ScaffoldYard();
    made.on(x);
    Due.is(name, call.on(x), due);
    List<String> odd = new ArrayList<>();
    boolean[] seen = new boolean[patterns.length];
    for (String change : View.of(made.then(call::on)).changesFrom(View.of(made))) {
      boolean named = change.matches(FOLLOWS);
      for (int k = 0; k < patterns.length; k++) {
        if (change.matches(patterns[k])) named = seen[k] = true;
      }
      if (!named) odd.add(change);
    }
    for (String change : odd) System.out.println(name + " changes " + change);
    Due.is(name + " changes what is not named", odd.size(), 0);
    for (int k = 0; k < patterns.length; k++) Due.is(name + " does not change " + patterns[k], seen[k] ? 0 : 1, 0);
  }

  private static void changes(String name, Call call, long due, String... patterns) {
    changes(name, LeavesTest::busy, call, due, patterns);
  }

  /** A question may not even change what follows. */
  private static void asks(String name, Call call, long due) {
    Deed made = LeavesTest::busy;
    ScaffoldYard x = new ScaffoldYard();
    made.on(x);
    Due.is(name, call.on(x), due);
    List<String> all = View.of(made.then(call::on)).changesFrom(View.of(made));
    for (String change : all) System.out.println(name + " changes " + change);
    Due.is(name + " changes nothing", all.size(), 0);
  }

  private static String tagEnds(int f, int lift, int last) {
    return "tagged\\[" + f + ", " + lift + "\\]: " + last + " > NONE";
  }

  private static String up(int f, int piece, int on) {
    return "isUp\\[" + f + ", " + piece + "\\]: " + (1 - on) + " > " + on;
  }

  private static void questions() {
    asks("3 fit", x -> x.fit(10, 1, 2, 1), 3);
    asks("4 join", x -> x.join(9, 1, 2, 1), 4);
    for (int what = 0; what < 8; what++) {
      int asked = what;
      asks("15 about", x -> x.about(1, asked), new int[] {3, 2, 3, 6, 6, 6, 7, 5}[what]);
    }
    asks("16 told", x -> x.told(1, 2, 0) + 10 * x.told(1, 2, 1), 34);
    asks("17 isOf", x -> x.isOf(1, 2, 2), 1);
    asks("18 plan", x -> x.plan(1, 2, 1, 0) + 10 * x.plan(1, 2, 1, 1) + 100 * x.plan(1, 3, 1, 2), 113);
    asks("19 load", x -> x.load(2, 1), 240 + 5 * 212);
    asks("20 foot", x -> x.foot(2, 1, 0) + 1000000 * x.foot(2, 1, 1), 1000000 + 650);
    asks("20 foot, none", x -> x.foot(0, 2, 0), NONE);
    asks("21 wind", x -> x.wind(1, 2, 0), 45);
    asks("22 lost", x -> x.lost(2), 240000);
    asks("23 free", x -> x.free(2, 0), 6);
    asks("24 over", x -> x.over(2, 0) + 10 * x.over(1, 1), 6 + 20);
    asks("26 breaches", x -> x.breaches(2), 5 + 1);
    asks("27 breach", x -> x.breach(2, 5, 0) + 10 * x.breach(2, 4, 1) + 100 * x.breach(2, 5, 2), 1 + 40);
    asks("27 breach, none", x -> x.breach(2, 6, 0), NONE);
    asks("30 next", x -> x.next(0, 0) + 1000 * x.next(0, 2) + 1000000 * (x.next(2, 1) == 30 ? 1 : 0), BRACE + 14 + 1000 * (BRACE + 14));
    asks("32 isUp", x -> x.isUp(2, 0) + 10 * x.isUp(0, BRACE + 14), 1);
    asks("32 isUp, none", x -> x.isUp(0, 2), NONE);
    asks("33 day, none goes by", x -> x.day(0), 3);
    asks("36 tagged", x -> x.tagged(0, 2) + 100 * x.tagged(0, 0), 11 + 300);
    asks("36 tagged, none", x -> x.tagged(1, 1), NONE);
    asks("39 stranded", x -> x.stranded(), 512);
    asks("41 wants", x -> x.wants(0, 0, 2), 17);
    asks("42 lacks", x -> x.lacks(0, 2), 12);
    asks("43 stays", x -> x.stays(0, 1, -1) + 10 * x.stays(2, 2, 1), 10);
    asks("43 stays, none", x -> x.stays(0, 1, 0), NONE);
    for (int what = 0; what < 6; what++) {
      int asked = what;
      asks("44 count", x -> x.count(asked), new int[] {3, 40 + 10, 3, 4, 3, 5}[what]);
    }
  }

  private static void numbers() {
    changes("2 table 0", x -> x.table(0, 3, 9), 0, "table\\[0, 3\\]: 0 > 9");
    changes("2 table 1", x -> x.table(1, 5, 0), 4, "table\\[1, 5\\]: 4 > 0");
    changes("2 table 2", x -> x.table(2, 3, 0), 12, "table\\[2, 3\\]: 12 > 0");
    changes("2 table 2, what a tie holds", x -> x.table(2, 0, 0), 30, "table\\[2, 0\\]: 30 > 0");
    changes("25 rule A", x -> x.rule(0, 5), 2, "rule\\[0\\]: 2 > 5");
    changes("25 rule B", x -> x.rule(1, 1), 2, "rule\\[1\\]: 2 > 1");
    changes("25 rule C", x -> x.rule(2, 1), 2, "rule\\[2\\]: 2 > 1");
    changes("40 stock", x -> x.stock(0, 2, 100000), 5, "stock\\[0, 2\\]: 5 > 100000");
    changes("40 stock of none", x -> x.stock(3, 50, 7), 0, "stock\\[3, 50\\]: 0 > 7");
  }

  /** No change is kept, so that none can be taken back. */
  private static final String[] FORGETS = {"count\\[5\\]: 5 > 0", "undone \\d: .*"};

  private static String[] and(String[] some, String... more) {
    List<String> all = new ArrayList<>(List.of(some));
    all.addAll(List.of(more));
    return all.toArray(new String[0]);
  }

  private static void bays() {
    String newBay = "(told\\[1, 3, \\d\\]|plan\\[1, 3, \\d, [01]\\]|plan\\[1, 4, \\d, 2\\]): INDEX > .*";
    String goneBay = "(told\\[1, 2, \\d\\]|plan\\[1, 2, \\d, [01]\\]|plan\\[1, 3, \\d, 2\\]): .* > INDEX";
    String newPieces = "isUp\\[1, (4|15|69|80)\\]: NONE > 0";
    changes("6 bay", x -> x.bay(1, LOADING, 9), 3, and(FORGETS, "about\\[1, 0\\]: 3 > 4", "about\\[1, 3\\]: 6 > 15", newBay, newPieces));
    changes("6 a gate", x -> x.bay(1, GATE, 9), 3, and(FORGETS, "about\\[1, 0\\]: 3 > 4", "about\\[1, 3\\]: 6 > 15", newBay, "isUp\\[1, (4|15|80|333)\\]: NONE > 0"));
    String gonePieces = "isUp\\[1, (3|14|68|79|134|145|200|211|278)\\]: 0 > NONE";
    changes("7 drop", x -> x.drop(1), 3, and(FORGETS, "about\\[1, 0\\]: 3 > 2", "about\\[1, 3\\]: 6 > 3", goneBay, gonePieces));
    String anew = "(about|told|floor|plan|isUp)\\[1, .*|tagged\\[1, [2345]\\]: INDEX > NONE";
    Deed made = LeavesTest::busy;
    Deed broken = made.then(x -> x.brace(1, 2, 0, 0)).then(x -> x.rule(2, 1)).then(x -> Due.is("a rule is broken", x.breaches(1), 1));
    changes("6 bay, a rule is broken", broken, x -> x.bay(1, HUNG, 9), 3, and(FORGETS, "about\\[1, 0\\]: 3 > 4", "about\\[1, 3\\]: 6 > 15", newBay, newPieces));
    changes("7 drop, a rule is broken", broken, x -> x.drop(1), 3, and(FORGETS, "about\\[1, 0\\]: 3 > 2", "about\\[1, 3\\]: 6 > 3", goneBay, gonePieces));
    changes("5 frame, a rule is broken", broken.then(x -> x.leave(9)), x -> x.frame(1, 2, 9, 8), 0, and(FORGETS, anew, "about\\[1, 2\\]: 3 > 9", "about\\[1, 7\\]: 5 > 0"));
    changes("5 frame", made.then(x -> x.leave(9)), x -> x.frame(1, 6, 9, 8), 0, and(FORGETS, anew, "about\\[1, 1\\]: 2 > 6", "about\\[1, 7\\]: 5 > 0"));
    Deed two = LeavesTest::first;
    changes("5 a frame more", two.then(LeavesTest::third).then(x -> x.gust(0, 7)), x -> x.frame(1, 1, 1, 1), 0,
        "count\\[5\\]: 5 > 0", "undone \\d: .*", "(about|told|floor|plan|isUp|tagged)\\[1, .*: NO > .*");
  }

  /** A change, which the call that takes it back leaves as it was, but for what had to make room. */
  private static void change(String name, Call call, long due, String... patterns) {
    changes(name, call, due, and(patterns, "undone \\d: .*"));
    Deed made = LeavesTest::busy;
    String room = "count\\[5\\]: 5 > 4|undone \\d: undo.*|undone 5: .*";
    for (String change : View.of(made.then(call::on).then(x -> x.undo())).changesFrom(View.of(made))) {
      boolean named = change.matches(room);
      if (!named) System.out.println(name + ", taken back, changes " + change);
      Due.is(name + ", taken back", named ? 0 : 1, 0);
    }
  }

  private static void plans() {
    change("8 floor", x -> x.floor(2, 0), 1, "floor\\[2, 0\\]: 1 > 0");
    change("8 floor that is there, of a tagged lift", x -> x.floor(0, 2), 0);
    change("8 floor that is there, of a lift that someone is on", x -> x.floor(1, 1), 0);
    change("9 strip", x -> x.strip(1, 1), 3, "floor\\[1, 1\\]: 0 > 1", "plan\\[1, [012], 1, 0\\]: [123] > -1", "isUp\\[1, (209|210|211)\\]: 0 > NONE");
    change("9 strip of a tagged lift that someone is on", x -> x.strip(0, 2), 1,
        "floor\\[0, 2\\]: 0 > 1", "plan\\[0, 0, 2, 0\\]: 3 > -1", "isUp\\[0, 220\\]: 0 > NONE");
    change("10 board", x -> x.board(1, 1, 0, 6), 1, "plan\\[1, 1, 0, 0\\]: 1 > 6");
    change("10 board of a tagged lift that someone is on", x -> x.board(0, 0, 2, 6), 3, "plan\\[0, 0, 2, 0\\]: 3 > 6");
    change("10 board, none", x -> x.board(0, 0, 2, -1), 3, "plan\\[0, 0, 2, 0\\]: 3 > -1", "isUp\\[0, 220\\]: 0 > NONE");
    change("10 board, new", x -> x.board(0, 3, 0, 0), -1, "plan\\[0, 3, 0, 0\\]: -1 > 0", "isUp\\[0, 201\\]: NONE > 0");
    change("10 board, the same", x -> x.board(0, 0, 2, 3), 3);
    change("11 brace", x -> x.brace(0, 4, 2, 1), 0, "plan\\[0, 4, 2, 1\\]: 0 > 1", "isUp\\[0, 158\\]: NONE > 0");
    change("11 brace, none", x -> x.brace(0, 3, 1, 0), 1, "plan\\[0, 3, 1, 1\\]: 1 > 0", "isUp\\[0, 146\\]: 0 > NONE");
    change("11 brace of a frame that someone is on", x -> x.brace(1, 2, 0, 0), 1, "plan\\[1, 2, 0, 1\\]: 1 > 0", "isUp\\[1, 134\\]: 0 > NONE");
    change("11 brace, the same", x -> x.brace(0, 3, 1, 1), 1);
    change("12 tie", x -> x.tie(0, 5, 0, 1), 0, "plan\\[0, 5, 0, 2\\]: 0 > 1", "isUp\\[0, 269\\]: NONE > 0");
    change("12 tie, none", x -> x.tie(0, 4, 2, 0), 1, "plan\\[0, 4, 2, 2\\]: 1 > 0", "isUp\\[0, 290\\]: 0 > NONE");
    change("12 tie of a frame that someone is on", x -> x.tie(1, 3, 1, 0), 1, "plan\\[1, 3, 1, 2\\]: 1 > 0", "isUp\\[1, 278\\]: 0 > NONE");
    change("12 tie, the same", x -> x.tie(0, 4, 2, 1), 1);
    change("13 gust", x -> x.gust(0, 20), 7, "about\\[0, 7\\]: 7 > 20");
    change("13 gust, none", x -> x.gust(1, 0), 5, "about\\[1, 7\\]: 5 > 0");
    change("13 gust, the same", x -> x.gust(2, 20), 20);
    changes("14 undo", x -> x.undo(), 4, "about\\[2, 7\\]: 20 > 0", "count\\[5\\]: 5 > 4", "undone \\d: .*");
    Deed made = LeavesTest::busy;
    changes("14 undo", made.then(x -> x.undo()), x -> x.undo(), 3, "plan\\[0, 4, 2, 2\\]: 1 > 0", "isUp\\[0, 290\\]: 0 > NONE", "count\\[5\\]: 4 > 3", "undone \\d: .*");
  }

  private static void pieces() {
    changes("28 put", x -> x.put(0, BRACE + 14), 41, up(0, BRACE + 14, 1), tagEnds(0, 1, 5), tagEnds(0, 2, 11));
    changes("28 put, the top lift", x -> x.put(0, TIE + 26), 41, up(0, TIE + 26, 1), tagEnds(0, 2, 11));
    changes("28 put, someone is on the frame", x -> x.put(1, 3), 1, up(1, 3, 1));
    changes("28 put, standards are over", x -> x.put(2, LEDGER), 11, up(2, LEDGER, 1));
    changes("29 take", x -> x.take(0, BOARDS + 15), 39, up(0, BOARDS + 15, 0), tagEnds(0, 1, 5), tagEnds(0, 2, 11));
    changes("29 take, lift 0", x -> x.take(0, TIE + 1), 39, up(0, TIE + 1, 0), tagEnds(0, 0, 3), tagEnds(0, 1, 5), tagEnds(0, 2, 11));
    changes("29 take, standards are over", x -> x.take(2, 24), 9, up(2, 24, 0));
    changes("31 go, put", x -> x.go(0, 400, 1), 3, up(0, BRACE + 14, 1), up(0, BOARDS + 22, 1), up(0, TIE + 26, 1), tagEnds(0, 1, 5), tagEnds(0, 2, 11));
    changes("31 go, put one", x -> x.go(1, 1, 1), 1, up(1, 0, 1));
    changes("31 go, put none", LeavesTest::first, x -> x.go(0, 9, 1), 0);
    changes("31 go, take none", x -> x.go(1, 400, 0), 0);
    changes("31 go, take", x -> x.go(0, 1, 0), 1, up(0, TIE + 23, 0), tagEnds(0, 2, 11));
    changes("31 go, take all", x -> x.go(2, 400, 0), 10, "isUp\\[2, .*: 1 > 0");
  }

  private static void days() {
    changes("33 day", x -> x.day(1), 4, "count\\[4\\]: 3 > 4", tagEnds(0, 0, 3));
    changes("33 days", x -> x.day(8), 11, "count\\[4\\]: 3 > 11", tagEnds(0, 0, 3), tagEnds(0, 1, 5));
    changes("33 the most days", x -> x.day(1000), 1003, "count\\[4\\]: 3 > 1003", tagEnds(0, 0, 3), tagEnds(0, 1, 5), tagEnds(0, 2, 11));
    changes("34 storm", x -> x.storm(), 3, tagEnds(0, 0, 3), tagEnds(0, 1, 5), tagEnds(0, 2, 11));
    Deed sound = LeavesTest::sound;
    changes("35 tag, anew", sound, x -> x.tag(0, 0, 2), 4, "tagged\\[0, 0\\]: 3 > 4");
    changes("35 tag", sound.then(x -> x.day(1)), x -> x.tag(0, 0, 1), 4, "tagged\\[0, 0\\]: NONE > 4");
    changes("35 tag, wind is lost", sound.then(x -> x.storm()).then(x -> loosen(x)), x -> x.tag(0, 2, 30), 32, "tagged\\[0, 2\\]: NONE > 32");
    changes("37 enter", x -> x.enter(0, 0, 1), 1, "leave\\[0\\]: NO > 1", "count\\[3\\]: 4 > 5");
    changes("37 enter, a third", x -> x.enter(0, 0, 2), 3, "leave\\[0\\]: NO > 2", "count\\[3\\]: 4 > 5");
    changes("38 leave", x -> x.leave(8), 2, "leave\\[8\\]: 2 > NO", "count\\[3\\]: 4 > 3");
    changes("38 leave, the last of a lift", x -> x.leave(4), 0, "leave\\[4\\]: 0 > NO", "count\\[3\\]: 4 > 3");
    changes("38 leave, stranded", x -> x.leave(9), 11, "leave\\[9\\]: 11 > NO", "count\\[3\\]: 4 > 3");
  }

  /** Frame 0 has no ties, and all of its plan is up. */
  private static void loosen(ScaffoldYard x) {
    for (int lift = 0; lift < 3; lift++) {
      x.take(0, TIE + 11 * lift + 1);
      x.tie(0, 1, lift, 0);
    }
    x.tie(0, 4, 2, 0);
    x.rule(0, 0);
    x.go(0, 400, 1);
    Due.is("wind is lost", x.lost(0), 3 * 28);
  }

  /** What is asked of a frame does not hang on other frames. */
  private static void framesAlone() {
    Deed[] each = {LeavesTest::first, LeavesTest::second, LeavesTest::third};
    Deed day = x -> x.day(3);
    Deed all = each[0].then(each[1]).then(each[2]);
    for (int f = 0; f < 3; f++) {
      Deed alone = f == 0 ? each[0] : day.then(each[f]);
      Deed ruled = x -> { x.rule(0, 1); x.rule(2, 1); x.table(2, 0, 9); x.table(2, 2, 9); };
      String other = View.ofFrame(all.then(ruled), f).otherThan(View.ofFrame(alone.then(ruled), f));
      Due.is("frame " + f + " among others: " + other, other == null ? 0 : 1, 0);
    }
  }

  /** Each frame has the same answers, whichever number it has. */
  private static void framesAlike() {
    for (int f = 0; f < 3; f++) {
      ScaffoldYard x = new ScaffoldYard();
      int number = f;
      like(x, number);
      Due.is("26 rules are for frame " + f, x.breaches(f), 2 + 2);
      Due.is("24 what is borne is for frame " + f, x.over(f, 0), 7);
      Due.is("22 wind of frame " + f, x.lost(f), 3 * 2 * 2 * 2);
      Due.is("31 frame " + f, x.go(f, 400, 1), 6 + 4);
      Due.is("44 frame " + f, x.count(1), 10);
      for (int g = 0; g < 3; g++) Due.is("15 frame " + g + " beside " + f, x.about(g, 0), g == f ? 2 : NO);
    }
  }

  private static void like(ScaffoldYard x, int f) {
    x.frame(f, 2, 2, 1);
    x.bay(f, NETTED, 2);
    x.gust(f, 3);
    x.rule(0, 2);
    x.rule(2, 2);
    x.table(2, 2, 3);
  }

  public static void main(String[] args) {
    questions();
    numbers();
    bays();
    plans();
    pieces();
    days();
    framesAlone();
    framesAlike();
    Due.end();
  }
}
