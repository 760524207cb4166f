/** Each promise of the document by its number: ordinary inputs, the edges it names, wrong inputs. */
public final class PromisesTest {
  private static final int BAD = ScaffoldYard.BAD, NO = ScaffoldYard.NO, FULL = ScaffoldYard.FULL;
  private static final int NOTHING = ScaffoldYard.NOTHING, INDEX = ScaffoldYard.INDEX, NONE = ScaffoldYard.NONE;
  private static final int LEAST = Integer.MIN_VALUE, MOST = Integer.MAX_VALUE;
  private static final int TUBE = 0, LEDGER = 66, BRACE = 132, BOARDS = 198, TIE = 264, BEAM = 330;

  /** Frame 0 of some lifts of height 2, with bays of these kinds, of widths 1, 2, 3 and so on. */
  private static ScaffoldYard yard(int lifts, int... kinds) {
    ScaffoldYard x = new ScaffoldYard();
    Due.is("yard: frame", x.frame(0, lifts, 2, 1), 0);
    for (int k = 1; k < kinds.length; k++) Due.is("yard: bay", x.bay(0, kinds[k], k + 1), k);
    return x;
  }

  private static void p1() {
    ScaffoldYard x = new ScaffoldYard();
    for (int what = 0; what < 6; what++) Due.is("1 count " + what, x.count(what), 0);
    for (int place = 0; place < 6; place++) {
      Due.is("1 table 0", x.table(0, place, 0), 0);
      Due.is("1 table 1", x.table(1, place, 0), 0);
    }
    for (int place = 0; place < 7; place++) Due.is("1 table 2", x.table(2, place, 1), 1000);
    Due.is("1 rule A", x.rule(0, 0), 0);
    Due.is("1 rule B", x.rule(1, 1), 1);
    Due.is("1 rule C", x.rule(2, 0), 0);
    for (int kind = 0; kind < 6; kind++) {
      Due.is("1 stock", x.stock(kind, 1, 0), 0);
      Due.is("1 stock", x.stock(kind, 100, 0), 0);
    }
    for (int person = 0; person < 10; person++) Due.is("1 leave", x.leave(person), NO);
    for (int f = 0; f < 3; f++) Due.is("1 about", x.about(f, 0), NO);
    Due.is("1 stranded", x.stranded(), 0);
    Due.is("1 undo", x.undo(), NO);
    Due.is("1 two objects share nothing", new ScaffoldYard().table(2, 0, 5), 1000);
  }

  private static void p2() {
    ScaffoldYard x = new ScaffoldYard();
    Due.is("2", x.table(0, 0, 100), 0);
    Due.is("2", x.table(0, 0, 1), 100);
    Due.is("2", x.table(0, 5, 3), 0);
    Due.is("2", x.table(1, 0, 7), 0);
    Due.is("2", x.table(1, 0, 0), 7);
    Due.is("2", x.table(2, 0, 1000000), 1000);
    Due.is("2", x.table(2, 0, 0), 1000000);
    Due.is("2 size 101", x.table(1, 0, 101), BAD);
    Due.is("2 size -1", x.table(1, 0, -1), BAD);
    Due.is("2 place 6", x.table(1, 6, 1), BAD);
    Due.is("2 place -1", x.table(2, -1, 1), BAD);
    Due.is("2 place 7", x.table(2, 7, 1), BAD);
    Due.is("2 number", x.table(2, 6, 1000001), BAD);
    Due.is("2 number -1", x.table(2, 6, -1), BAD);
    Due.is("2 table -1", x.table(-1, 0, 1), BAD);
    Due.is("2 table 3", x.table(3, 0, 1), BAD);
    Due.is("2 far", x.table(MOST, LEAST, MOST), BAD);
    Due.is("2 refused ones change nothing", x.table(1, 0, 0), 0);
    Due.is("2 refused ones change nothing", x.table(2, 6, 9), 1000);
  }

  private static void fitIs(ScaffoldYard x, int length, int gap, int... row) {
    int sum = 0;
    for (int k = 0; k < row.length; k++) {
      sum += row[k];
      Due.is("3 fit " + length + ", " + gap + " bay " + k, x.fit(length, gap, 2, k), row[k]);
    }
    Due.is("3 fit " + length + ", " + gap + " many", x.fit(length, gap, 0, 0), row.length);
    Due.is("3 fit " + length + ", " + gap + " sum", x.fit(length, gap, 1, 0), sum);
    Due.is("3 fit " + length + ", " + gap + " behind", x.fit(length, gap, 2, row.length), NONE);
  }

  private static void p3() {
    ScaffoldYard x = new ScaffoldYard();
    Due.is("3 no sizes", x.fit(10, 99, 0, 0), NONE);
    x.table(0, 0, 4);
    x.table(0, 2, 3);
    x.table(0, 3, 1);
    x.table(0, 5, 4);
    fitIs(x, 6, 0, 3, 3);
    fitIs(x, 5, 0, 4, 1);
    fitIs(x, 9, 0, 4, 4, 1);
    fitIs(x, 9, 1, 4, 4);
    fitIs(x, 10, 0, 4, 3, 3);
    fitIs(x, 3, 99, 3);
    fitIs(x, 1, 99, 1);
    fitIs(x, 6, 2, 4);
    Due.is("3 the longest", x.fit(1000, 0, 0, 0), 250);
    Due.is("3 its last", x.fit(1000, 0, 2, 249), 4);
    Due.is("3 i is looked at for what 2 alone", x.fit(6, 0, 0, 77), 2);
    Due.is("3 behind the last", x.fit(1000, 0, 2, MOST), NONE);
    x.table(0, 3, 0);
    Due.is("3 none", x.fit(5, 0, 0, 0), NONE);
    Due.is("3 none, of what 2", x.fit(5, 0, 2, 0), NONE);
    Due.is("3 none below the least", x.fit(2, 99, 1, 0), NONE);
    fitIs(x, 5, 1, 4);
    x.table(0, 1, 1);
    x.table(0, 0, 0);
    x.table(0, 2, 0);
    x.table(0, 5, 0);
    Due.is("3 a thousand bays", x.fit(1000, 0, 0, 0), 1000);
    Due.is("3 a thousand bays", x.fit(1000, 0, 2, 999), 1);
    Due.is("3 length 0", x.fit(0, 0, 0, 0), BAD);
    Due.is("3 length 1001", x.fit(1001, 0, 0, 0), BAD);
    Due.is("3 gap -1", x.fit(10, -1, 0, 0), BAD);
    Due.is("3 gap 100", x.fit(10, 100, 0, 0), BAD);
    Due.is("3 what -1", x.fit(10, 0, -1, 0), BAD);
    Due.is("3 what 3", x.fit(10, 0, 3, 0), BAD);
    Due.is("3 i -1", x.fit(10, 0, 0, -1), BAD);
    Due.is("3 far", x.fit(LEAST, MOST, LEAST, LEAST), BAD);
  }

  private static void joinIs(ScaffoldYard x, int length, int lap, int... row) {
    int sum = 0;
    for (int k = 0; k < row.length; k++) {
      sum += row[k];
      Due.is("4 join " + length + ", " + lap + " tube " + k, x.join(length, lap, 2, k), row[k]);
    }
    Due.is("4 join " + length + ", " + lap + " many", x.join(length, lap, 0, 0), row.length);
    Due.is("4 join " + length + ", " + lap + " sum", x.join(length, lap, 1, 0), sum);
    Due.is("4 join " + length + ", " + lap + " behind", x.join(length, lap, 2, row.length), NONE);
  }

  private static void p4() {
    ScaffoldYard x = new ScaffoldYard();
    x.table(0, 0, 50);
    Due.is("4 sizes of bays are none", x.join(10, 0, 0, 0), NONE);
    x.table(1, 0, 6);
    x.table(1, 1, 5);
    x.table(1, 5, 4);
    joinIs(x, 1, 50, 4);
    joinIs(x, 5, 0, 5);
    joinIs(x, 10, 0, 6, 4);
    joinIs(x, 7, 0, 4, 4);
    joinIs(x, 10, 2, 6, 6);
    joinIs(x, 11, 2, 6, 5, 4);
    joinIs(x, 15, 0, 6, 5, 4);
    Due.is("4 twenty tubes", x.join(120, 0, 0, 0), 20);
    Due.is("4 twenty tubes", x.join(120, 0, 2, 19), 6);
    Due.is("4 more than twenty", x.join(121, 0, 0, 0), NONE);
    Due.is("4 a lap that eats all", x.join(7, 6, 0, 0), NONE);
    Due.is("4 none, of what 2", x.join(7, 6, 2, 0), NONE);
    x.table(1, 2, 100);
    Due.is("4 the longest", x.join(400, 50, 0, 0), 7);
    Due.is("4 the longest, its sum", x.join(400, 50, 1, 0), 700);
    Due.is("4 length 0", x.join(0, 0, 0, 0), BAD);
    Due.is("4 length 401", x.join(401, 0, 0, 0), BAD);
    Due.is("4 lap -1", x.join(10, -1, 0, 0), BAD);
    Due.is("4 lap 51", x.join(10, 51, 0, 0), BAD);
    Due.is("4 what -1", x.join(10, 0, -1, 0), BAD);
    Due.is("4 what 3", x.join(10, 0, 3, 0), BAD);
    Due.is("4 i -1", x.join(10, 0, 1, -1), BAD);
    Due.is("4 i far", x.join(10, 0, 2, MOST), NONE);
  }

  private static void p5() {
    ScaffoldYard x = new ScaffoldYard();
    Due.is("5", x.frame(2, 6, 20, 100), 0);
    Due.is("5 bays", x.about(2, 0), 1);
    Due.is("5 lifts", x.about(2, 1), 6);
    Due.is("5 height", x.about(2, 2), 20);
    Due.is("5 width", x.about(2, 3), 100);
    Due.is("5 kind", x.told(2, 0, 0), 0);
    x.bay(2, 4, 3);
    x.gust(2, 9);
    x.floor(2, 0);
    x.board(2, 0, 0, 6);
    x.brace(2, 0, 0, 1);
    x.tie(2, 0, 0, 1);
    Due.is("5 anew", x.frame(2, 1, 1, 1), 0);
    for (int what = 0; what < 8; what++) Due.is("5 anew " + what, x.about(2, what), what < 4 ? 1 : 0);
    Due.is("5 rows are missing", x.board(2, 0, 0, 0), NOTHING);
    Due.is("5 no change is kept", x.count(5), 0);
    int[][] wrong = {{-1, 1, 1, 1}, {3, 1, 1, 1}, {0, 0, 1, 1}, {0, 7, 1, 1}, {0, 1, 0, 1}, {0, 1, 21, 1}, {0, 1, 1, 0}, {0, 1, 1, 101}};
    for (int[] w : wrong) Due.is("5 bad", x.frame(w[0], w[1], w[2], w[3]), BAD);
    Due.is("5 frame 0 is missing still", x.about(0, 0), NO);
    x.put(2, 0);
    Due.is("5 a piece is up", x.frame(2, 1, 1, 1), NO);
    Due.is("5 bad ahead of no", x.frame(2, 7, 1, 1), BAD);
    x.go(2, 400, 1);
    x.tag(2, 0, 9);
    x.enter(0, 2, 0);
    x.go(2, 400, 0);
    Due.is("5 someone is on it", x.frame(2, 1, 1, 1), NO);
    Due.is("5 nobody is on another", x.frame(1, 1, 1, 1), 0);
    x.leave(0);
    Due.is("5 nobody is on it", x.frame(2, 1, 1, 1), 0);
  }

  private static void p6() {
    ScaffoldYard x = new ScaffoldYard();
    Due.is("6 missing", x.bay(0, 0, 1), NO);
    Due.is("6 bad ahead of no", x.bay(0, 5, 1), BAD);
    x = yard(3, 0, 1);
    x.tie(0, 2, 0, 1);
    x.tie(0, 2, 1, 1);
    x.tie(0, 1, 0, 1);
    x.floor(0, 1);
    Due.is("6", x.bay(0, 1, 100), 2);
    Due.is("6 no foot, no tie", x.plan(0, 2, 0, 2), 0);
    Due.is("6 a higher tie stays", x.plan(0, 2, 1, 2), 1);
    Due.is("6 another's tie stays", x.plan(0, 1, 0, 2), 1);
    Due.is("6 the new standard has none", x.plan(0, 3, 1, 2), 0);
    Due.is("6 no boards there", x.plan(0, 2, 1, 0), -1);
    Due.is("6 the row is there for it, too", x.board(0, 2, 1, 3), -1);
    Due.is("6 one kept", x.count(5), 1);
    Due.is("6 kind", x.bay(0, 4, 1), 3);
    Due.is("6 none is kept", x.count(5), 0);
    for (int[] w : new int[][] {{-1, 0, 1}, {3, 0, 1}, {0, -1, 1}, {0, 5, 1}, {0, 0, 0}, {0, 0, 101}}) {
      Due.is("6 bad", x.bay(w[0], w[1], w[2]), BAD);
    }
    for (int k = 4; k < 10; k++) Due.is("6 more", x.bay(0, 0, 1), k);
    Due.is("6 full", x.bay(0, 0, 1), FULL);
    x.put(0, 0);
    Due.is("6 no ahead of full", x.bay(0, 0, 1), NO);
    x.take(0, 0);
    x.drop(0);
    Due.is("6 room again", x.bay(0, 0, 1), 9);
  }

  private static void p7() {
    ScaffoldYard x = new ScaffoldYard();
    Due.is("7 missing", x.drop(0), NO);
    Due.is("7 bad", x.drop(3), BAD);
    Due.is("7 bad", x.drop(-1), BAD);
    x = yard(2, 0, 1, 1);
    x.floor(0, 1);
    x.board(0, 2, 1, 5);
    x.board(0, 1, 1, 4);
    x.brace(0, 2, 1, 1);
    x.tie(0, 3, 0, 1);
    x.tie(0, 2, 1, 1);
    Due.is("7 no foot", x.foot(0, 2, 0), NONE);
    Due.is("7", x.drop(0), 3);
    Due.is("7 bays", x.about(0, 0), 2);
    Due.is("7 boards", x.about(0, 4), 1);
    Due.is("7 braces", x.about(0, 5), 0);
    Due.is("7 ties", x.about(0, 6), 1);
    Due.is("7 the tie of the last then", x.plan(0, 2, 1, 2), 1);
    Due.is("7 it has a foot", x.foot(0, 2, 1), 1);
    Due.is("7 none is kept", x.count(5), 0);
    Due.is("7 a bay like the old", x.bay(0, 0, 3), 2);
    Due.is("7 is bare", x.plan(0, 2, 1, 0), -1);
    Due.is("7 is bare", x.plan(0, 2, 1, 1), 0);
    Due.is("7 is bare", x.plan(0, 3, 0, 2), 0);
    x.put(0, 0);
    Due.is("7 a piece is up", x.drop(0), NO);
    x.take(0, 0);
    Due.is("7", x.drop(0), 3);
    Due.is("7", x.drop(0), 2);
    Due.is("7 one bay", x.drop(0), NO);
  }

  private static void p8() {
    ScaffoldYard x = yard(2, 0);
    Due.is("8", x.floor(0, 1), 1);
    Due.is("8 again", x.floor(0, 1), 0);
    Due.is("8 a change all the same", x.count(5), 2);
    Due.is("8 other lift", x.board(0, 0, 0, 1), NOTHING);
    Due.is("8 no boards", x.plan(0, 0, 1, 0), -1);
    x.board(0, 0, 1, 3);
    Due.is("8 with boards", x.floor(0, 1), 0);
    Due.is("8 boards stay", x.plan(0, 0, 1, 0), 3);
    Due.is("8 lift 2", x.floor(0, 2), INDEX);
    Due.is("8 lift -1", x.floor(0, -1), INDEX);
    Due.is("8 missing", x.floor(1, 9), NO);
    Due.is("8 bad", x.floor(3, 0), BAD);
    Due.is("8 bad", x.floor(LEAST, 0), BAD);
    Due.is("8 refused ones are no changes", x.count(5), 4);
  }

  private static void p9() {
    ScaffoldYard x = yard(2, 0, 0, 0);
    Due.is("9 missing row", x.strip(0, 0), NOTHING);
    x.floor(0, 0);
    x.floor(0, 1);
    Due.is("9 no boards", x.strip(0, 0), 0);
    x.board(0, 0, 1, 0);
    x.board(0, 2, 1, 6);
    Due.is("9", x.strip(0, 1), 2);
    Due.is("9 gone", x.about(0, 4), 0);
    Due.is("9 missing then", x.strip(0, 1), NOTHING);
    Due.is("9 there again", x.floor(0, 1), 1);
    Due.is("9 bare", x.plan(0, 2, 1, 0), -1);
    x.floor(0, 0);
    x.board(0, 0, 0, 1);
    x.board(0, 1, 0, 1);
    x.go(0, 4, 1);
    x.put(0, LEDGER);
    Due.is("9 boards up", x.put(0, BOARDS), 6);
    Due.is("9 one is up", x.strip(0, 0), NO);
    Due.is("9 another row", x.strip(0, 1), 0);
    Due.is("9 nothing ahead of no", x.strip(0, 1), NOTHING);
    Due.is("9 lift", x.strip(0, 2), INDEX);
    Due.is("9 missing", x.strip(1, 2), NO);
    Due.is("9 bad", x.strip(-1, 0), BAD);
    x.take(0, BOARDS);
    Due.is("9 none is up", x.strip(0, 0), 2);
  }

  private static void p10() {
    ScaffoldYard x = yard(2, 0, 1);
    Due.is("10 lift ahead of row", x.board(0, 0, 2, 1), INDEX);
    Due.is("10 row ahead of bay", x.board(0, 9, 1, 1), NOTHING);
    x.floor(0, 0);
    x.floor(0, 1);
    Due.is("10", x.board(0, 0, 0, 6), -1);
    Due.is("10", x.board(0, 0, 0, 0), 6);
    Due.is("10", x.board(0, 0, 0, -1), 0);
    Due.is("10", x.board(0, 0, 0, 2), -1);
    Due.is("10 bay", x.board(0, 2, 0, 2), INDEX);
    Due.is("10 bay", x.board(0, -1, 0, 2), INDEX);
    Due.is("10 gate", x.board(0, 1, 0, 2), NO);
    Due.is("10 gate, none", x.board(0, 1, 0, -1), NO);
    Due.is("10 gate above", x.board(0, 1, 1, 2), -1);
    Due.is("10 class 7", x.board(0, 0, 0, 7), BAD);
    Due.is("10 class -2", x.board(0, 0, 0, -2), BAD);
    Due.is("10 frame", x.board(3, 0, 0, 1), BAD);
    Due.is("10 missing", x.board(1, 0, 0, 1), NO);
    Due.is("10 bad ahead of no", x.board(1, 0, 0, 7), BAD);
    x.go(0, 400, 1);
    Due.is("10 up", x.board(0, 0, 0, 3), NO);
    Due.is("10 up, none", x.board(0, 0, 0, -1), NO);
    Due.is("10 unchanged", x.plan(0, 0, 0, 0), 2);
    x.go(0, 400, 0);
    Due.is("10 down", x.board(0, 0, 0, 3), 2);
  }

  private static void p11() {
    ScaffoldYard x = yard(2, 0, 1);
    Due.is("11", x.brace(0, 0, 0, 1), 0);
    Due.is("11", x.brace(0, 0, 0, 1), 1);
    Due.is("11", x.brace(0, 0, 0, 0), 1);
    Due.is("11", x.brace(0, 0, 0, 0), 0);
    Due.is("11 gate", x.brace(0, 1, 0, 0), NO);
    Due.is("11 gate", x.brace(0, 1, 0, 1), NO);
    Due.is("11 gate above", x.brace(0, 1, 1, 1), 0);
    Due.is("11 lift", x.brace(0, 0, 2, 1), INDEX);
    Due.is("11 lift", x.brace(0, 0, -1, 1), INDEX);
    Due.is("11 bay", x.brace(0, 2, 0, 1), INDEX);
    Due.is("11 bay", x.brace(0, -1, 0, 1), INDEX);
    Due.is("11 on", x.brace(0, 0, 0, 2), BAD);
    Due.is("11 on", x.brace(1, 0, 0, -1), BAD);
    Due.is("11 frame", x.brace(3, 0, 0, 1), BAD);
    Due.is("11 missing", x.brace(1, 9, 9, 1), NO);
    x.go(0, 400, 1);
    Due.is("11 up", x.brace(0, 1, 1, 0), NO);
    Due.is("11 not up", x.brace(0, 0, 1, 1), 0);
    x.take(0, BRACE + 11 + 1);
    Due.is("11 taken", x.brace(0, 1, 1, 0), 1);
  }

  private static void p12() {
    ScaffoldYard x = yard(2, 0, 1, 1);
    Due.is("12", x.tie(0, 3, 1, 1), 0);
    Due.is("12", x.tie(0, 3, 1, 1), 1);
    Due.is("12", x.tie(0, 3, 1, 0), 1);
    Due.is("12", x.tie(0, 0, 0, 1), 0);
    Due.is("12 no foot", x.tie(0, 2, 0, 1), NO);
    Due.is("12 no foot", x.tie(0, 2, 0, 0), NO);
    Due.is("12 no foot above", x.tie(0, 2, 1, 1), 0);
    Due.is("12 lift", x.tie(0, 0, 2, 1), INDEX);
    Due.is("12 standard", x.tie(0, 4, 0, 1), INDEX);
    Due.is("12 standard", x.tie(0, -1, 0, 1), INDEX);
    Due.is("12 on", x.tie(0, 0, 0, 2), BAD);
    Due.is("12 frame", x.tie(-1, 0, 0, 1), BAD);
    Due.is("12 missing", x.tie(2, 0, 0, 1), NO);
    x.go(0, 400, 1);
    Due.is("12 up", x.tie(0, 0, 0, 0), NO);
    Due.is("12 up, the same", x.tie(0, 0, 0, 1), NO);
    Due.is("12 not up", x.tie(0, 1, 0, 1), 0);
  }

  private static void p13() {
    ScaffoldYard x = yard(1, 0);
    Due.is("13", x.gust(0, 20), 0);
    Due.is("13", x.gust(0, 0), 20);
    Due.is("13 p", x.gust(0, 21), BAD);
    Due.is("13 p", x.gust(0, -1), BAD);
    Due.is("13 frame", x.gust(3, 1), BAD);
    Due.is("13 missing", x.gust(1, 1), NO);
    Due.is("13 bad ahead of no", x.gust(1, 21), BAD);
    Due.is("13 changes", x.count(5), 2);
    Due.is("13 up or not", x.go(0, 400, 1), 3);
    Due.is("13 up or not", x.gust(0, 3), 0);
  }

  private static void p14() {
    ScaffoldYard x = yard(2, 0, 0);
    x.frame(1, 1, 1, 1);
    Due.is("14 none", x.undo(), NO);
    x.floor(0, 0);
    x.board(0, 1, 0, 4);
    x.strip(0, 0);
    x.gust(1, 7);
    x.tie(1, 0, 0, 1);
    x.brace(0, 0, 1, 1);
    Due.is("14 five", x.count(5), 5);
    Due.is("14 brace", x.undo(), 4);
    Due.is("14 brace", x.plan(0, 0, 1, 1), 0);
    Due.is("14 tie", x.undo(), 3);
    Due.is("14 tie", x.plan(1, 0, 0, 2), 0);
    Due.is("14 gust", x.undo(), 2);
    Due.is("14 gust", x.about(1, 7), 0);
    Due.is("14 strip", x.undo(), 1);
    Due.is("14 strip", x.plan(0, 1, 0, 0), 4);
    Due.is("14 board", x.undo(), 0);
    Due.is("14 board", x.plan(0, 1, 0, 0), -1);
    Due.is("14 the floor is no more kept", x.undo(), NO);
    Due.is("14 the floor stays", x.floor(0, 0), 0);
    x.floor(0, 1);
    Due.is("14 floor", x.undo(), 1);
    Due.is("14 floor", x.strip(0, 1), NOTHING);
    Due.is("14 a floor that was there", x.undo(), 0);
    Due.is("14 stays", x.board(0, 0, 0, 1), -1);
    x.go(0, 400, 1);
    Due.is("14 the boards are up", x.undo(), NO);
    Due.is("14 still kept", x.count(5), 1);
    x.gust(1, 3);
    Due.is("14 the wind can be", x.undo(), 1);
    Due.is("14 the boards can't", x.undo(), NO);
    x.take(0, BOARDS);
    Due.is("14 as they are down", x.undo(), 0);
    x.board(0, 0, 0, 1);
    x.board(0, 0, 0, 3);
    x.put(0, BOARDS);
    Due.is("14 of another class they stay up", x.undo(), 1);
    Due.is("14 of another class", x.plan(0, 0, 0, 0), 1);
    Due.is("14 without, they can't", x.undo(), NO);
    Due.is("14 up still", x.isUp(0, BOARDS), 1);
    x = yard(1, 0);
    x.tie(0, 0, 0, 1);
    x.brace(0, 0, 0, 1);
    x.go(0, 400, 1);
    Due.is("14 a brace is up", x.undo(), NO);
    x.take(0, BRACE);
    Due.is("14 a brace is down", x.undo(), 1);
    Due.is("14 a tie is up", x.undo(), NO);
    x.take(0, TIE);
    Due.is("14 a tie is down", x.undo(), 0);
    x.gust(0, 1);
    x.bay(0, 9, 1);
    Due.is("14 a refused bay keeps them", x.count(5), 1);
    x.go(0, 400, 0);
    x.frame(1, 1, 1, 1);
    Due.is("14 another frame", x.undo(), NO);
  }

  private static void p15() {
    ScaffoldYard x = yard(3, 0, 4);
    x.floor(0, 2);
    x.board(0, 0, 2, 0);
    x.brace(0, 0, 1, 1);
    x.brace(0, 1, 1, 1);
    x.tie(0, 2, 0, 1);
    x.tie(0, 2, 1, 1);
    x.tie(0, 1, 1, 1);
    x.gust(0, 11);
    int[] want = {2, 3, 2, 3, 1, 2, 3, 11};
    for (int what = 0; what < 8; what++) Due.is("15 what " + what, x.about(0, what), want[what]);
    Due.is("15 what 8", x.about(0, 8), BAD);
    Due.is("15 what -1", x.about(0, -1), BAD);
    Due.is("15 frame", x.about(3, 0), BAD);
    Due.is("15 missing", x.about(1, 0), NO);
    Due.is("15 bad ahead of no", x.about(1, 8), BAD);
  }

  private static void p16() {
    ScaffoldYard x = yard(1, 0, 3, 2);
    Due.is("16", x.told(0, 1, 0), 3);
    Due.is("16", x.told(0, 1, 1), 2);
    Due.is("16", x.told(0, 2, 0), 2);
    Due.is("16 bay", x.told(0, 3, 0), INDEX);
    Due.is("16 bay", x.told(0, -1, 0), INDEX);
    Due.is("16 what", x.told(0, 9, 2), BAD);
    Due.is("16 what", x.told(0, 0, -1), BAD);
    Due.is("16 frame", x.told(3, 0, 0), BAD);
    Due.is("16 missing", x.told(1, 0, 0), NO);
  }

  private static void p17() {
    ScaffoldYard x = yard(1, 0, 1, 2, 3, 4);
    for (int bay = 0; bay < 5; bay++) {
      for (int kind = 0; kind < 5; kind++) {
        boolean is = kind == 0 || kind == bay || bay == 4 && kind == 2;
        Due.is("17 bay " + bay + " kind " + kind, x.isOf(0, bay, kind), is ? 1 : 0);
      }
    }
    Due.is("17 bay", x.isOf(0, 5, 0), INDEX);
    Due.is("17 bay", x.isOf(0, -1, 0), INDEX);
    Due.is("17 kind", x.isOf(0, 0, 5), BAD);
    Due.is("17 kind", x.isOf(0, 0, -1), BAD);
    Due.is("17 frame", x.isOf(-1, 0, 0), BAD);
    Due.is("17 missing", x.isOf(1, 0, 0), NO);
  }

  private static void p18() {
    ScaffoldYard x = yard(2, 0, 0);
    Due.is("18 no row", x.plan(0, 0, 0, 0), -1);
    x.floor(0, 1);
    x.board(0, 1, 1, 5);
    x.brace(0, 0, 1, 1);
    x.tie(0, 2, 0, 1);
    Due.is("18", x.plan(0, 1, 1, 0), 5);
    Due.is("18", x.plan(0, 0, 1, 0), -1);
    Due.is("18", x.plan(0, 0, 1, 1), 1);
    Due.is("18", x.plan(0, 1, 1, 1), 0);
    Due.is("18", x.plan(0, 2, 0, 2), 1);
    Due.is("18", x.plan(0, 2, 1, 2), 0);
    Due.is("18 bay", x.plan(0, 2, 0, 0), INDEX);
    Due.is("18 bay", x.plan(0, 2, 0, 1), INDEX);
    Due.is("18 standard", x.plan(0, 3, 0, 2), INDEX);
    Due.is("18 standard", x.plan(0, -1, 0, 2), INDEX);
    Due.is("18 lift", x.plan(0, 0, 2, 2), INDEX);
    Due.is("18 lift", x.plan(0, 0, -1, 0), INDEX);
    Due.is("18 what", x.plan(0, 0, 0, 3), BAD);
    Due.is("18 frame", x.plan(3, 0, 0, 0), BAD);
    Due.is("18 missing", x.plan(1, 0, 0, 0), NO);
  }

  /** Five bays of widths 1 .. 5: bay, gate, gate, loading, hung, netted; boards on lift 1. */
  private static ScaffoldYard loaded() {
    ScaffoldYard x = yard(2, 0, 1, 1, 2, 3, 4);
    x.floor(0, 1);
    for (int bay = 0; bay < 6; bay++) x.board(0, bay, 1, bay);
    return x;
  }

  private static void p19() {
    ScaffoldYard x = loaded();
    // Boards weigh 2 + 0, 4 + 1, 6 + 2, 8 + 6, 10 + 4, 12 + 10; a standard weighs 4, one without foot 2.
    int[] twice = {8 + 2, 8 + 2 + 5, 4 + 5 + 8, 8 + 8 + 14, 8 + 14 + 28, 8 + 22, 8 + 22};
    for (int s = 0; s < 7; s++) Due.is("19 standard " + s, x.load(0, s), twice[s]);
    Due.is("19 standard", x.load(0, 7), INDEX);
    Due.is("19 standard", x.load(0, -1), INDEX);
    Due.is("19 frame", x.load(3, 0), BAD);
    Due.is("19 missing", x.load(1, 0), NO);
  }

  private static void footIs(ScaffoldYard x, int standard, long above, long below) {
    Due.is("20 foot " + standard + " above", x.foot(0, standard, 0), above);
    Due.is("20 foot " + standard + " below", x.foot(0, standard, 1), below);
  }

  private static void p20() {
    ScaffoldYard x = loaded();
    footIs(x, 0, 5, 1);
    // Standard 2 has 17 / 2; bays of 2 and 3 lie between it and its feet.
    footIs(x, 1, 63, 5);
    Due.is("20 no foot", x.foot(0, 2, 0), NONE);
    Due.is("20 no foot", x.foot(0, 2, 1), NONE);
    footIs(x, 3, 92, 5);
    footIs(x, 4, 25, 1);
    footIs(x, 5, 15, 1);
    footIs(x, 6, 15, 1);
    Due.is("20 standard", x.foot(0, 7, 0), INDEX);
    Due.is("20 standard", x.foot(0, -1, 0), INDEX);
    Due.is("20 part", x.foot(0, 0, 2), BAD);
    Due.is("20 part", x.foot(0, 2, -1), BAD);
    Due.is("20 frame", x.foot(3, 0, 0), BAD);
    Due.is("20 missing", x.foot(1, 0, 0), NO);
    // Two standards without foot side by side, each 2 / 1, behind a bay of 1: gates of 2, 3, 4.
    x = yard(2, 0, 1, 1, 1);
    footIs(x, 1, 4 * 9 + 2 * 7 + 2 * 4, 9);
    footIs(x, 4, 4 * 9 + 2 * 2 + 2 * 5, 9);
    x = yard(2, 0);
    x.floor(0, 0);
    x.board(0, 0, 0, 3);
    footIs(x, 0, 13, 2);
  }

  private static void p21() {
    ScaffoldYard x = yard(2, 0, 4, 0, 4);
    x.gust(0, 3);
    // Bay 1 is pressed with 12 at each lift, bay 3 with 24.
    Due.is("21 no tie", x.wind(0, 1, 0), 0);
    x.tie(0, 2, 1, 1);
    Due.is("21 all to one", x.wind(0, 2, 1), 72);
    x.tie(0, 1, 0, 1);
    // Of both bays lift 1 goes to standard 2; bay 3 at lift 0 is as near to both, and so goes to standard 1.
    Due.is("21", x.wind(0, 1, 0), 36);
    Due.is("21", x.wind(0, 2, 1), 36);
    x.tie(0, 2, 1, 0);
    x.tie(0, 3, 0, 1);
    x.tie(0, 4, 0, 1);
    Due.is("21 the least standard", x.wind(0, 3, 0), 48);
    Due.is("21 the least standard", x.wind(0, 4, 0), 0);
    Due.is("21 no tie there", x.wind(0, 3, 1), 0);
    x = yard(3, 0, 4);
    x.gust(0, 1);
    x.tie(0, 1, 0, 1);
    x.tie(0, 1, 2, 1);
    Due.is("21 the least lift", x.wind(0, 1, 0), 8);
    Due.is("21 the least lift", x.wind(0, 1, 2), 4);
    Due.is("21 standard", x.wind(0, 3, 0), INDEX);
    Due.is("21 standard", x.wind(0, -1, 0), INDEX);
    Due.is("21 lift", x.wind(0, 0, 3), INDEX);
    Due.is("21 lift", x.wind(0, 0, -1), INDEX);
    Due.is("21 frame", x.wind(3, 0, 0), BAD);
    Due.is("21 missing", x.wind(1, 0, 0), NO);
  }

  private static void p22() {
    ScaffoldYard x = yard(3, 0, 4, 2);
    Due.is("22 no wind", x.lost(0), 0);
    x.gust(0, 5);
    Due.is("22 only the netted one", x.lost(0), 60);
    x.tie(0, 0, 0, 1);
    Due.is("22 a tie", x.lost(0), 0);
    Due.is("22 frame", x.lost(3), BAD);
    Due.is("22 missing", x.lost(1), NO);
  }

  private static void p23() {
    ScaffoldYard x = yard(6, 0, 1, 1);
    Due.is("23", x.free(0, 0), 6);
    Due.is("23 no foot", x.free(0, 2), 5);
    x.tie(0, 0, 3, 1);
    Due.is("23 from the lower end", x.free(0, 0), 4);
    x.tie(0, 0, 0, 1);
    Due.is("23 between two", x.free(0, 0), 3);
    x.tie(0, 0, 2, 1);
    Due.is("23 to the top, or between", x.free(0, 0), 2);
    x.tie(0, 0, 1, 1);
    x.tie(0, 0, 4, 1);
    x.tie(0, 0, 5, 1);
    Due.is("23 one", x.free(0, 0), 1);
    x.tie(0, 2, 5, 1);
    Due.is("23 no foot, the top held", x.free(0, 2), 5);
    x.tie(0, 2, 1, 1);
    Due.is("23 no foot", x.free(0, 2), 4);
    Due.is("23 standard", x.free(0, 4), INDEX);
    Due.is("23 standard", x.free(0, -1), INDEX);
    Due.is("23 frame", x.free(3, 0), BAD);
    Due.is("23 missing", x.free(1, 0), NO);
    Due.is("23 at least 1", yard(1, 0, 1, 1).free(0, 2), 1);
  }

  private static void p24() {
    ScaffoldYard x = loaded();
    Due.is("24 none", x.over(0, 0), 0);
    // At the feet: 5, 12.6, -, 18.4, 25, 15, 15; the one without foot is free for 1 lift and has 8.5.
    x.table(2, 2, 15);
    Due.is("24", x.over(0, 0), 8 + 16);
    x.table(2, 2, 14);
    Due.is("24", x.over(0, 0), 8 + 16 + 32 + 64);
    x.table(2, 2, 12);
    Due.is("24 a part above", x.over(0, 0), 2 + 8 + 16 + 32 + 64);
    x.table(2, 2, 1000);
    x.table(2, 1, 9);
    Due.is("24 no foot", x.over(0, 0), 0);
    x.table(2, 1, 8);
    Due.is("24 no foot, a half above", x.over(0, 0), 4);
    x.board(0, 1, 1, 2);
    Due.is("24 no foot has 9 then", x.load(0, 2), 18);
    x.table(2, 1, 9);
    Due.is("24 just what it bears", x.over(0, 0), 0);
    x.gust(0, 1);
    x.tie(0, 5, 0, 1);
    x.tie(0, 5, 1, 1);
    x.tie(0, 0, 0, 1);
    // The netted bay of 6 is pressed with 12 at each lift.
    x.table(2, 0, 12);
    Due.is("24 ties", x.over(0, 1), 0);
    x.table(2, 0, 11);
    Due.is("24 ties", x.over(0, 1), 2);
    Due.is("24 what", x.over(0, 2), BAD);
    Due.is("24 what", x.over(1, -1), BAD);
    Due.is("24 frame", x.over(3, 0), BAD);
    Due.is("24 missing", x.over(1, 0), NO);
  }

  private static void p25() {
    ScaffoldYard x = new ScaffoldYard();
    Due.is("25", x.rule(0, 9), 0);
    Due.is("25", x.rule(0, 0), 9);
    Due.is("25", x.rule(1, 6), 1);
    Due.is("25", x.rule(1, 1), 6);
    Due.is("25", x.rule(2, 10), 0);
    Due.is("25", x.rule(2, 0), 10);
    int[][] wrong = {{0, -1}, {0, 10}, {1, 0}, {1, 7}, {2, -1}, {2, 11}, {-1, 1}, {3, 1}, {MOST, LEAST}};
    for (int[] w : wrong) Due.is("25 bad", x.rule(w[0], w[1]), BAD);
  }

  private static void breachIs(ScaffoldYard x, int i, int rule, int lift, int place) {
    Due.is("27 breach " + i + " rule", x.breach(0, i, 0), rule);
    Due.is("27 breach " + i + " lift", x.breach(0, i, 1), lift);
    Due.is("27 breach " + i + " place", x.breach(0, i, 2), place);
  }

  private static void p26and27() {
    ScaffoldYard x = yard(3, 0, 1, 0);
    Due.is("26 no rules", x.breaches(0), 0);
    x.rule(1, 2);
    Due.is("26 B alone is none", x.breaches(0), 0);
    x.rule(0, 1);
    Due.is("26 ties", x.breaches(0), 6);
    x.tie(0, 1, 0, 1);
    Due.is("26 a tie", x.breaches(0), 4);
    breachIs(x, 0, 0, 0, 2);
    breachIs(x, 1, 0, 1, 0);
    breachIs(x, 3, 0, 1, 2);
    x.rule(2, 1);
    Due.is("26 braces, a gate is one", x.breaches(0), 4 + 8);
    breachIs(x, 4, 1, 0, 0);
    breachIs(x, 5, 1, 0, 2);
    breachIs(x, 11, 1, 2, 2);
    x.rule(2, 2);
    Due.is("26 two bays", x.breaches(0), 4 + 4);
    x.brace(0, 1, 1, 1);
    Due.is("26 a brace", x.breaches(0), 4 + 2);
    x.rule(2, 10);
    Due.is("26 all the bays", x.breaches(0), 4 + 1);
    breachIs(x, 4, 1, 2, 0);
    x.rule(0, 9);
    x.rule(1, 6);
    Due.is("26 all the standards and lifts", x.breaches(0), 1);
    x.tie(0, 1, 0, 0);
    Due.is("26 none in all", x.breaches(0), 2);
    breachIs(x, 0, 0, 0, 0);
    Due.is("26 frame", x.breaches(3), BAD);
    Due.is("26 missing", x.breaches(1), NO);
    Due.is("27 behind", x.breach(0, 2, 0), NONE);
    Due.is("27 far behind", x.breach(0, MOST, 0), NONE);
    Due.is("27 i", x.breach(0, -1, 0), BAD);
    Due.is("27 what", x.breach(0, 0, 3), BAD);
    Due.is("27 what", x.breach(0, 0, -1), BAD);
    Due.is("27 frame", x.breach(-1, 0, 0), BAD);
    Due.is("27 missing", x.breach(1, 0, 0), NO);
    Due.is("27 bad ahead of no", x.breach(1, -1, 0), BAD);
  }

  private static void p28() {
    ScaffoldYard x = yard(2, 0, 1, 1, 0);
    x.floor(0, 0);
    x.board(0, 0, 0, 1);
    x.brace(0, 0, 0, 1);
    x.tie(0, 0, 0, 1);
    Due.is("28 missing ahead of the number", x.put(1, 999), NO);
    Due.is("28 frame", x.put(3, 0), BAD);
    int[] none = {-1, 396, LEAST, MOST, TUBE + 2, TUBE + 5, TUBE + 22, LEDGER + 1, LEDGER + 4, BRACE + 1, BOARDS + 3, TIE + 1, BEAM, BEAM + 3, BEAM + 12};
    for (int piece : none) Due.is("28 no piece " + piece, x.put(0, piece), BAD);
    Due.is("28 tube", x.put(0, TUBE), 1);
    Due.is("28 up", x.put(0, TUBE), NO);
    Due.is("28 ledger needs both", x.put(0, LEDGER), NO);
    Due.is("28 beam needs both", x.put(0, BEAM + 1), NO);
    Due.is("28 tube", x.put(0, TUBE + 1), 2);
    Due.is("28 beam needs both", x.put(0, BEAM + 1), NO);
    Due.is("28 brace needs the ledger", x.put(0, BRACE), NO);
    Due.is("28 boards need the ledger", x.put(0, BOARDS), NO);
    Due.is("28 ledger", x.put(0, LEDGER), 3);
    Due.is("28 brace", x.put(0, BRACE), 4);
    Due.is("28 boards", x.put(0, BOARDS), 5);
    Due.is("28 tie", x.put(0, TIE), 6);
    Due.is("28 tube above needs that below", x.put(0, TUBE + 11 + 3), NO);
    Due.is("28 tube", x.put(0, TUBE + 3), 7);
    Due.is("28 tube above", x.put(0, TUBE + 11 + 3), 8);
    Due.is("28 no foot needs beams", x.put(0, TUBE + 11 + 2), NO);
    Due.is("28 beam", x.put(0, BEAM + 2), 9);
    Due.is("28 no foot needs both beams", x.put(0, TUBE + 11 + 2), NO);
    Due.is("28 beam", x.put(0, BEAM + 1), 10);
    Due.is("28 no foot", x.put(0, TUBE + 11 + 2), 11);
    Due.is("28 gate's ledger needs tubes of its lift", x.put(0, LEDGER + 11 + 1), NO);
    Due.is("28 tube", x.put(0, TUBE + 11 + 1), 12);
    Due.is("28 gate's ledger", x.put(0, LEDGER + 11 + 1), 13);
    x.frame(1, 1, 1, 1);
    Due.is("28 so many of that frame", x.put(1, 1), 1);
    Due.is("28 in all", x.count(1), 14);
  }

  private static void p29() {
    ScaffoldYard x = yard(2, 0, 1, 1, 0);
    x.tie(0, 0, 1, 1);
    Due.is("29 not up", x.take(0, 0), NO);
    int all = x.go(0, 400, 1);
    Due.is("29 all", all, 9 + 6 + 1 + 2);
    Due.is("29 no piece", x.take(0, TUBE + 2), BAD);
    Due.is("29 no piece", x.take(0, 396), BAD);
    Due.is("29 no piece", x.take(0, -1), BAD);
    Due.is("29 missing", x.take(1, 999), NO);
    Due.is("29 frame", x.take(3, 0), BAD);
    Due.is("29 beam is needed", x.take(0, BEAM + 1), NO);
    Due.is("29 a ledger needs the tube", x.take(0, TUBE + 11 + 2), NO);
    Due.is("29", x.take(0, LEDGER + 11 + 1), all - 1);
    Due.is("29 another ledger needs the tube", x.take(0, TUBE + 11 + 2), NO);
    Due.is("29", x.take(0, LEDGER + 11 + 2), all - 2);
    Due.is("29", x.take(0, TUBE + 11 + 2), all - 3);
    Due.is("29 a beam needs the tube", x.take(0, TUBE + 3), NO);
    Due.is("29", x.take(0, BEAM + 1), all - 4);
    Due.is("29", x.take(0, BEAM + 2), all - 5);
    Due.is("29", x.take(0, LEDGER + 11), all - 6);
    Due.is("29 a tie needs the tube", x.take(0, TUBE + 11), NO);
    Due.is("29 tie", x.take(0, TIE + 11), all - 7);
    Due.is("29", x.take(0, TUBE + 11), all - 8);
    Due.is("29 a ledger needs it", x.take(0, TUBE), NO);
    Due.is("29", x.take(0, LEDGER), all - 9);
    Due.is("29", x.take(0, TUBE), all - 10);
    Due.is("29 again", x.take(0, TUBE), NO);
  }

  private static void p30() {
    ScaffoldYard x = yard(2, 0, 1, 1, 0);
    Due.is("30 put", x.next(0, 0), 0);
    Due.is("30 take", x.next(0, 1), NONE);
    Due.is("30 not up", x.next(0, 2), 0);
    x.go(0, 7, 1);
    Due.is("30 tubes, then those above", x.isUp(0, TUBE + 11 + 3), 1);
    x.put(0, TUBE + 11 + 4);
    Due.is("30 least to put", x.next(0, 0), LEDGER);
    Due.is("30 least not up", x.next(0, 2), TUBE + 11 + 2);
    Due.is("30 greatest to take", x.next(0, 1), TUBE + 11 + 4);
    x.go(0, 400, 1);
    Due.is("30 all up", x.next(0, 0), NONE);
    Due.is("30 all up", x.next(0, 2), NONE);
    Due.is("30 a ledger", x.next(0, 1), LEDGER + 11 + 3);
    Due.is("30 what", x.next(0, 3), BAD);
    Due.is("30 what", x.next(1, -1), BAD);
    Due.is("30 frame", x.next(3, 0), BAD);
    Due.is("30 missing", x.next(1, 0), NO);
  }

  private static void p31() {
    ScaffoldYard x = yard(2, 0, 1, 1);
    Due.is("31", x.go(0, 3, 1), 3);
    Due.is("31", x.isUp(0, TUBE + 3), 1);
    Due.is("31", x.isUp(0, TUBE + 11), 0);
    Due.is("31", x.go(0, 400, 1), 13 - 3);
    Due.is("31 no more", x.go(0, 1, 1), 0);
    Due.is("31 four ledgers and a tube", x.go(0, 5, 0), 5);
    Due.is("31 ledgers", x.isUp(0, LEDGER), 0);
    Due.is("31 the tube", x.isUp(0, TUBE + 11 + 3), 0);
    Due.is("31 a tube stands on the beams", x.isUp(0, BEAM + 2), 1);
    Due.is("31 that tube, then the greater beam", x.go(0, 2, 0), 2);
    Due.is("31 the tube", x.isUp(0, TUBE + 11 + 2), 0);
    Due.is("31 the greater beam", x.isUp(0, BEAM + 2), 0);
    Due.is("31 the other tubes stay", x.isUp(0, TUBE + 11 + 1), 1);
    Due.is("31", x.go(0, 400, 0), 13 - 7);
    Due.is("31 up to the lower tubes of feet, and those above", x.go(0, 7, 1), 7);
    Due.is("31 the first ledger, not yet a beam", x.isUp(0, LEDGER), 1);
    x.go(0, 2, 1);
    Due.is("31 the ledger above, then a beam", x.isUp(0, BEAM + 1), 1);
    x.go(0, 2, 1);
    Due.is("31 the other beam, then the tube on them", x.isUp(0, TUBE + 11 + 2), 1);
    Due.is("31", x.isUp(0, LEDGER + 11 + 1), 0);
    x.go(0, 400, 0);
    Due.is("31", x.count(1), 0);
    Due.is("31 no more", x.go(0, 400, 0), 0);
    Due.is("31 n", x.go(0, 0, 1), BAD);
    Due.is("31 n", x.go(0, 401, 1), BAD);
    Due.is("31 on", x.go(0, 1, 2), BAD);
    Due.is("31 on", x.go(1, 1, -1), BAD);
    Due.is("31 frame", x.go(3, 1, 1), BAD);
    Due.is("31 missing", x.go(1, 1, 1), NO);
  }

  private static void p32() {
    ScaffoldYard x = yard(2, 0, 1);
    x.go(0, 1, 1);
    Due.is("32", x.isUp(0, 0), 1);
    Due.is("32", x.isUp(0, 1), 0);
    Due.is("32", x.isUp(0, BEAM + 1), 0);
    Due.is("32 none", x.isUp(0, BEAM), NONE);
    Due.is("32 none", x.isUp(0, 3), NONE);
    Due.is("32 none", x.isUp(0, LEDGER + 1), NONE);
    Due.is("32 none", x.isUp(0, TIE), NONE);
    Due.is("32 none", x.isUp(0, -1), NONE);
    Due.is("32 none", x.isUp(0, MOST), NONE);
    Due.is("32 frame", x.isUp(3, 0), BAD);
    Due.is("32 missing", x.isUp(1, -1), NO);
  }

  private static void p33() {
    ScaffoldYard x = yard(1, 0);
    Due.is("33", x.day(0), 0);
    Due.is("33", x.day(1000), 1000);
    Due.is("33", x.day(1), 1001);
    Due.is("33 n", x.day(-1), BAD);
    Due.is("33 n", x.day(1001), BAD);
    Due.is("33 n", x.day(MOST), BAD);
    Due.is("33 today", x.count(4), 1001);
    x.go(0, 400, 1);
    Due.is("33 a tag", x.tag(0, 0, 2), 1002);
    x.day(1);
    Due.is("33 its last day", x.tagged(0, 0), 1002);
    x.day(1);
    Due.is("33 behind it", x.tagged(0, 0), NONE);
    // The limit itself lies behind the 512th call, where answers are free; they must not fail, though.
    ScaffoldYard far = new ScaffoldYard();
    for (int k = 0; k < 1000; k++) far.day(1000);
    Due.is("33 the last day", far.count(4), 1000000);
    Due.is("33 none behind it", far.day(1), BAD);
    Due.is("33 none goes by", far.day(0), 1000000);
  }

  private static void p34() {
    ScaffoldYard x = yard(2, 0);
    x.frame(2, 1, 1, 1);
    Due.is("34 none", x.storm(), 0);
    x.go(0, 400, 1);
    x.go(2, 400, 1);
    x.tag(0, 0, 3);
    x.tag(0, 1, 3);
    x.tag(2, 0, 3);
    x.enter(9, 2, 0);
    Due.is("34", x.storm(), 3);
    Due.is("34 all ended", x.count(2), 0);
    Due.is("34 people stay", x.stranded(), 512);
    Due.is("34 again", x.storm(), 0);
  }

  private static void p35() {
    ScaffoldYard x = yard(3, 0, 0);
    Due.is("35 nothing is up", x.tag(0, 0, 1), NO);
    x.go(0, 3, 1);
    Due.is("35 a ledger lacks", x.tag(0, 0, 1), NO);
    x.put(0, LEDGER);
    x.put(0, LEDGER + 1);
    Due.is("35 all of lift 0", x.tag(0, 0, 1), 0);
    Due.is("35 not of lift 1", x.tag(0, 1, 1), NO);
    x.go(0, 400, 1);
    Due.is("35 a piece below ended it", x.tagged(0, 0), 0);
    x.day(4);
    Due.is("35", x.tag(0, 2, 30), 33);
    Due.is("35 once more, for less", x.tag(0, 2, 1), 4);
    Due.is("35 lift", x.tag(0, 3, 1), INDEX);
    Due.is("35 lift", x.tag(0, -1, 1), INDEX);
    Due.is("35 n", x.tag(0, 0, 0), BAD);
    Due.is("35 n", x.tag(0, 9, 31), BAD);
    Due.is("35 frame", x.tag(3, 0, 1), BAD);
    Due.is("35 missing", x.tag(1, 0, 1), NO);
    x.rule(2, 1);
    for (int bay = 0; bay < 2; bay++) {
      x.brace(0, bay, 0, 1);
      x.put(0, BRACE + bay);
    }
    Due.is("35 no breach of lift 0", x.tag(0, 0, 1), 4);
    Due.is("35 a breach of lift 1", x.tag(0, 1, 1), NO);
    Due.is("35 a breach below", x.tag(0, 2, 1), NO);
    x.brace(0, 0, 1, 1);
    x.brace(0, 1, 1, 1);
    Due.is("35 a brace of the plan is not up", x.tag(0, 1, 1), NO);
    Due.is("35 above", x.tag(0, 0, 1), 4);
    x.go(0, 400, 1);
    Due.is("35 it is", x.tag(0, 1, 1), 4);
    x.rule(2, 0);
    x.table(2, 3, 5);
    Due.is("35 a standard is over", x.tag(0, 0, 1), NO);
    x.table(2, 3, 6);
    Due.is("35 none is", x.tag(0, 0, 1), 4);
    x.rule(0, 1);
    x.rule(1, 2);
    Due.is("35 ties: a breach of lift 0", x.tag(0, 0, 1), NO);
    x.tie(0, 1, 0, 1);
    x.go(0, 400, 1);
    Due.is("35 ties: of lift 1", x.tag(0, 0, 1), 4);
    Due.is("35 ties: of lift 1", x.tag(0, 1, 1), NO);
    x.gust(0, 20);
    x.table(2, 0, 0);
    Due.is("35 ties that are over are no matter", x.tag(0, 0, 2), 5);
  }

  private static void p36() {
    ScaffoldYard x = yard(3, 0, 0);
    x.go(0, 400, 1);
    for (int lift = 0; lift < 3; lift++) x.tag(0, lift, 9);
    Due.is("36", x.tagged(0, 2), 8);
    x.take(0, LEDGER + 22);
    Due.is("36 taken", x.tagged(0, 2), NONE);
    Due.is("36 below", x.tagged(0, 1), 8);
    x.put(0, LEDGER + 22);
    x.tag(0, 2, 9);
    x.brace(0, 0, 1, 1);
    Due.is("36 a plan ends none", x.tagged(0, 1), 8);
    x.put(0, BRACE + 11);
    Due.is("36 put", x.tagged(0, 1), NONE);
    Due.is("36 above", x.tagged(0, 2), NONE);
    Due.is("36 below", x.tagged(0, 0), 8);
    x.rule(0, 1);
    x.table(2, 3, 0);
    Due.is("36 a rule ends none", x.tagged(0, 0), 8);
    Due.is("36 refused ones end none", x.put(0, 0), NO);
    Due.is("36 refused ones end none", x.tagged(0, 0), 8);
    Due.is("36 lift", x.tagged(0, 3), INDEX);
    Due.is("36 lift", x.tagged(0, -1), INDEX);
    Due.is("36 frame", x.tagged(3, 0), BAD);
    Due.is("36 missing", x.tagged(1, 0), NO);
  }

  private static void p37() {
    ScaffoldYard x = yard(2, 0);
    x.go(0, 400, 1);
    Due.is("37 not tagged", x.enter(0, 0, 0), NO);
    x.tag(0, 0, 1);
    x.tag(0, 1, 1);
    Due.is("37", x.enter(0, 0, 0), 1);
    Due.is("37", x.enter(9, 0, 0), 2);
    Due.is("37 of that lift", x.enter(5, 0, 1), 1);
    Due.is("37 not away", x.enter(0, 0, 1), NO);
    Due.is("37 lift", x.enter(1, 0, 2), INDEX);
    Due.is("37 lift", x.enter(0, 0, -1), INDEX);
    Due.is("37 person", x.enter(10, 0, 0), BAD);
    Due.is("37 person", x.enter(-1, 1, 0), BAD);
    Due.is("37 frame", x.enter(1, 3, 0), BAD);
    Due.is("37 missing", x.enter(1, 1, 9), NO);
    x.day(1);
    Due.is("37 the tag ended", x.enter(1, 0, 0), NO);
    Due.is("37 they stay", x.count(3), 3);
  }

  private static void p38() {
    ScaffoldYard x = new ScaffoldYard();
    x.frame(2, 4, 1, 1);
    x.go(2, 400, 1);
    x.tag(2, 3, 1);
    Due.is("38 away", x.leave(4), NO);
    x.enter(4, 2, 3);
    x.storm();
    Due.is("38", x.leave(4), 23);
    Due.is("38 away", x.leave(4), NO);
    Due.is("38 person", x.leave(10), BAD);
    Due.is("38 person", x.leave(-1), BAD);
    x.frame(0, 1, 1, 1);
    x.go(0, 400, 1);
    x.tag(0, 0, 1);
    x.enter(4, 0, 0);
    Due.is("38 the first lift of the first frame", x.leave(4), 0);
  }

  private static void p39() {
    ScaffoldYard x = yard(2, 0);
    x.go(0, 400, 1);
    x.tag(0, 0, 5);
    x.tag(0, 1, 2);
    x.enter(1, 0, 0);
    x.enter(8, 0, 1);
    Due.is("39 none", x.stranded(), 0);
    x.day(2);
    Due.is("39 one", x.stranded(), 256);
    x.take(0, LEDGER + 11);
    Due.is("39 as above", x.stranded(), 256);
    x.tie(0, 0, 0, 1);
    x.put(0, TIE);
    Due.is("39 both", x.stranded(), 258);
    x.leave(8);
    Due.is("39 the other", x.stranded(), 2);
    x.tag(0, 0, 1);
    Due.is("39 tagged again", x.stranded(), 0);
  }

  private static void p40() {
    ScaffoldYard x = new ScaffoldYard();
    Due.is("40", x.stock(0, 1, 100000), 0);
    Due.is("40", x.stock(0, 1, 0), 100000);
    Due.is("40", x.stock(5, 100, 7), 0);
    Due.is("40", x.stock(5, 99, 8), 0);
    Due.is("40", x.stock(4, 100, 9), 0);
    Due.is("40", x.stock(5, 100, 1), 7);
    int[][] wrong = {{-1, 1, 1}, {6, 1, 1}, {0, 0, 1}, {0, 101, 1}, {0, 1, -1}, {0, 1, 100001}};
    for (int[] w : wrong) Due.is("40 bad", x.stock(w[0], w[1], w[2]), BAD);
    Due.is("40 unchanged", x.stock(0, 1, 1), 0);
  }

  private static void p41() {
    ScaffoldYard x = yard(2, 0, 1, 1, 0);
    x.bay(0, 0, 2);
    x.floor(0, 1);
    x.board(0, 1, 1, 1);
    x.board(0, 4, 1, 1);
    x.board(0, 0, 1, 1);
    x.brace(0, 4, 0, 1);
    x.tie(0, 0, 0, 1);
    x.tie(0, 0, 1, 1);
    Due.is("41 tubes", x.wants(0, 0, 2), 11);
    Due.is("41 tubes", x.wants(0, 0, 1), 0);
    Due.is("41 ledgers", x.wants(0, 1, 2), 3);
    Due.is("41 ledgers", x.wants(0, 1, 4), 2);
    Due.is("41 braces", x.wants(0, 2, 2), 1);
    Due.is("41 boards", x.wants(0, 3, 2), 2);
    Due.is("41 ties", x.wants(0, 4, 1), 2);
    Due.is("41 ties", x.wants(0, 4, 2), 0);
    Due.is("41 beams", x.wants(0, 5, 2), 1);
    Due.is("41 beams", x.wants(0, 5, 3), 1);
    Due.is("41 beams", x.wants(0, 5, 4), 0);
    x.go(0, 400, 1);
    Due.is("41 up or not", x.wants(0, 0, 2), 11);
    Due.is("41 kind", x.wants(0, 6, 1), BAD);
    Due.is("41 kind", x.wants(0, -1, 1), BAD);
    Due.is("41 width", x.wants(0, 0, 0), BAD);
    Due.is("41 width", x.wants(1, 0, 101), BAD);
    Due.is("41 frame", x.wants(3, 0, 1), BAD);
    Due.is("41 missing", x.wants(1, 0, 1), NO);
  }

  private static void p42() {
    ScaffoldYard x = new ScaffoldYard();
    Due.is("42 nothing", x.lacks(0, 1), 0);
    x.frame(0, 2, 3, 4);
    x.frame(2, 1, 3, 4);
    Due.is("42 all frames", x.lacks(0, 3), 6);
    Due.is("42 all frames", x.lacks(1, 4), 3);
    x.stock(0, 3, 4);
    Due.is("42 less the stock", x.lacks(0, 3), 2);
    x.stock(0, 3, 6);
    Due.is("42 enough", x.lacks(0, 3), 0);
    x.stock(0, 3, 100000);
    Due.is("42 more than enough", x.lacks(0, 3), 0);
    Due.is("42 kind", x.lacks(6, 1), BAD);
    Due.is("42 kind", x.lacks(-1, 1), BAD);
    Due.is("42 width", x.lacks(0, 0), BAD);
    Due.is("42 width", x.lacks(0, 101), BAD);
  }

  private static void p43() {
    ScaffoldYard x = new ScaffoldYard();
    x.frame(0, 1, 1, 1);
    x.frame(1, 3, 9, 2);
    for (int width : new int[] {2, 3, 1, 2}) x.bay(0, 0, width);
    for (int width : new int[] {1, 2, 3}) x.bay(1, 0, width);
    // 1 2 3 1 2 to 2 1 2 3: three stay, the first way is 1 2 3.
    Due.is("43", x.stays(0, 1, -1), 3);
    Due.is("43", x.stays(0, 1, 0), 0);
    Due.is("43", x.stays(0, 1, 1), 1);
    Due.is("43", x.stays(0, 1, 2), 2);
    Due.is("43 behind", x.stays(0, 1, 3), NONE);
    Due.is("43 back: 0 1 2 (2 1 2) is ahead of 1 2 3", x.stays(1, 0, 0), 0);
    Due.is("43 back", x.stays(1, 0, 2), 2);
    x.frame(2, 1, 1, 3);
    Due.is("43 one", x.stays(0, 2, -1), 1);
    Due.is("43 one", x.stays(0, 2, 0), 2);
    x.frame(2, 1, 1, 9);
    Due.is("43 none", x.stays(0, 2, -1), 0);
    Due.is("43 none", x.stays(0, 2, 0), NONE);
    x.bay(2, 2, 1);
    Due.is("43 another kind", x.stays(0, 2, -1), 0);
    x.bay(1, 4, 1);
    Due.is("43 netted is not like loading here", x.stays(1, 2, -1), 0);
    Due.is("43 itself", x.stays(1, 1, -1), 5);
    Due.is("43 i", x.stays(0, 1, -2), BAD);
    Due.is("43 frame", x.stays(3, 0, 0), BAD);
    Due.is("43 frame", x.stays(0, -1, 0), BAD);
    ScaffoldYard y = yard(1, 0);
    Due.is("43 missing", y.stays(0, 1, 0), NO);
    Due.is("43 missing", y.stays(1, 0, 0), NO);
    Due.is("43 bad ahead of no", y.stays(1, 0, -2), BAD);
  }

  private static void p44() {
    ScaffoldYard x = yard(1, 0);
    x.frame(2, 1, 1, 1);
    x.go(0, 400, 1);
    x.go(2, 2, 1);
    x.tag(0, 0, 3);
    x.enter(2, 0, 0);
    x.enter(3, 0, 0);
    x.day(2);
    x.gust(0, 1);
    int[] want = {2, 5, 1, 2, 2, 1};
    for (int what = 0; what < 6; what++) Due.is("44 what " + what, x.count(what), want[what]);
    Due.is("44 what 6", x.count(6), BAD);
    Due.is("44 what -1", x.count(-1), BAD);
    Due.is("44 far", x.count(LEAST), BAD);
    for (int p = 1; p < 9; p++) x.gust(0, p);
    Due.is("44 five at most", x.count(5), 5);
  }

  /** The greatest frame there can be: the last places of all rows. */
  private static void greatest() {
    ScaffoldYard x = yard(6, 0, 4, 0, 0, 0, 0, 0, 1, 1, 1);
    x.gust(0, 1);
    x.tie(0, 10, 5, 1);
    Due.is("the last tie", x.wind(0, 10, 5), 24);
    x.table(2, 0, 23);
    Due.is("the last tie is over", x.over(0, 1), 1);
    x.table(2, 6, 11);
    Due.is("standards of six lifts", x.over(0, 0), 0x47F | 0x80);
    x.rule(0, 1);
    x.rule(2, 1);
    Due.is("all breaches", x.breaches(0), 59 + 57);
    breachIs(x, 115, 1, 5, 9);
    Due.is("all breaches", x.breach(0, 116, 0), NONE);
    Due.is("the last tube", x.isUp(0, TUBE + 65), 0);
    Due.is("the last beam", x.isUp(0, BEAM + 9), 0);
    x.frame(1, 1, 1, 1);
    for (int bay = 1; bay < 10; bay++) x.bay(1, x.told(0, bay, 0), bay + 1);
    Due.is("all stay", x.stays(0, 1, -1), 10);
    Due.is("the last one stays", x.stays(0, 1, 9), 9);
    Due.is("none behind", x.stays(0, 1, 10), NONE);
    int all = 64 + 57 + 1 + 3;
    Due.is("all up", x.go(0, 400, 1), all);
    Due.is("the last beam", x.isUp(0, BEAM + 9), 1);
    Due.is("all down", x.go(0, 400, 0), all);
  }

  public static void main(String[] args) {
    p1(); p2(); p3(); p4(); p5(); p6(); p7(); p8(); p9(); p10(); p11();
    p12(); p13(); p14(); p15(); p16(); p17(); p18(); p19(); p20(); p21(); p22();
    p23(); p24(); p25(); p26and27(); p28(); p29(); p30(); p31(); p32(); p33();
    p34(); p35(); p36(); p37(); p38(); p39(); p40(); p41(); p42(); p43(); p44();
    greatest();
    Due.end();
  }
}
