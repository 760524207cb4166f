/**
 * Each sentence of the document that names an edge, with a test of its own: the first and the
 * last value, the empty and the full case, what is just enough and what is one too few. What is
 * refused, and in which order, is in RefusalsTest. All answers that are due were reckoned by hand.
 */
public final class EdgesTest {
  private static final int BAD = ScaffoldYard.BAD, NO = ScaffoldYard.NO, FULL = ScaffoldYard.FULL;
  private static final int NOTHING = ScaffoldYard.NOTHING, INDEX = ScaffoldYard.INDEX, NONE = ScaffoldYard.NONE;
  private static final int MOST = Integer.MAX_VALUE;
  private static final int TUBE = 0, LEDGER = 66, BRACE = 132, BOARDS = 198, TIE = 264, BEAM = 330;
  private static final int GATE = 1, LOADING = 2, HUNG = 3, NETTED = 4;

  /** Frame 0 of some lifts, of a height, with bays of one width; the first kind is 0, as it is of all frames. */
  private static ScaffoldYard yard(int lifts, int height, int width, int... kinds) {
    ScaffoldYard x = new ScaffoldYard();
    Due.is("yard: frame", x.frame(0, lifts, height, width), 0);
    for (int k = 1; k < kinds.length; k++) Due.is("yard: bay", x.bay(0, kinds[k], width), k);
    return x;
  }

  private static ScaffoldYard sizes(int table, int... sizes) {
    ScaffoldYard x = new ScaffoldYard();
    for (int k = 0; k < sizes.length; k++) x.table(table, k, sizes[k]);
    return x;
  }

  // ---- terms: an object

  private static void anObjectIsUsedFor512Calls() {
    ScaffoldYard x = yard(1, 1, 1, 0);
    for (int k = 2; k <= 511; k++) Due.is("call " + k, x.gust(0, k % 21), k == 2 ? 0 : (k - 1) % 21);
    Due.is("the 512th call", x.about(0, 7), 511 % 21);
    x = yard(1, 1, 1, 0);
    for (int k = 2; k <= 506; k++) x.gust(0, k % 21);
    for (int k = 4; k >= 0; k--) Due.is("the five calls ahead of the 512th", x.undo(), k);
    Due.is("the 512th call is refused like others", x.undo(), NO);
  }

  private static void objectsShareNothing() {
    ScaffoldYard x = yard(2, 3, 4, 0, 0), y = new ScaffoldYard();
    x.table(0, 0, 5);
    x.rule(2, 1);
    x.stock(1, 1, 1);
    x.day(9);
    x.gust(0, 1);
    Due.is("another's frames", y.about(0, 0), NO);
    Due.is("another's sizes", y.table(0, 0, 1), 0);
    Due.is("another's rules", y.rule(2, 2), 0);
    Due.is("another's stock", y.stock(1, 1, 2), 0);
    Due.is("another's day", y.day(1), 1);
    Due.is("another's changes", y.undo(), NO);
    Due.is("its own sizes", x.table(0, 0, 0), 5);
    Due.is("its own day", x.count(4), 9);
  }

  // ---- 1 SIZES; promises 2 to 4

  private static void tablesHaveSixPlacesAndSeven() {
    ScaffoldYard x = new ScaffoldYard();
    for (int table = 0; table < 3; table++) {
      int most = table == 2 ? 1000000 : 100;
      for (int place = 0; place < (table == 2 ? 7 : 6); place++) {
        Due.is("2 at first", x.table(table, place, most), table == 2 ? 1000 : 0);
        Due.is("2 the most", x.table(table, place, 0), most);
        Due.is("2 the least", x.table(table, place, 10 * table + place), 0);
      }
    }
    for (int table = 0; table < 3; table++) {
      for (int place = 0; place < (table == 2 ? 7 : 6); place++) Due.is("2 each place has its own", x.table(table, place, 1), 10 * table + place);
    }
  }

  private static void rowIs(String name, ScaffoldYard x, boolean fit, int length, int slack, int... row) {
    int sum = 0;
    for (int k = 0; k < row.length; k++) {
      sum += row[k];
      Due.is(name + ", place " + k, fit ? x.fit(length, slack, 2, k) : x.join(length, slack, 2, k), row[k]);
    }
    Due.is(name + ", behind", fit ? x.fit(length, slack, 2, row.length) : x.join(length, slack, 2, row.length), NONE);
    Due.is(name + ", many", fit ? x.fit(length, slack, 0, 0) : x.join(length, slack, 0, 0), row.length);
    Due.is(name + ", sum", fit ? x.fit(length, slack, 1, 0) : x.join(length, slack, 1, 0), sum);
  }

  private static void noRow(String name, ScaffoldYard x, boolean fit, int length, int slack) {
    for (int what = 0; what < 3; what++) {
      Due.is(name + ", what " + what, fit ? x.fit(length, slack, what, 0) : x.join(length, slack, what, 0), NONE);
    }
  }

  private static void aFitIsNotAboveTheLength() {
    ScaffoldYard x = sizes(0, 7);
    noRow("3 one too long", x, true, 6, 0);
    noRow("3 one too long, with a gap", x, true, 6, 99);
    rowIs("3 just as long", x, true, 7, 0, 7);
    rowIs("3 the second would be above", x, true, 13, 6, 7);
    rowIs("3 the second just is not", x, true, 14, 13, 7);
    rowIs("3 the second is needed", x, true, 14, 6, 7, 7);
  }

  private static void aFitIsNotBelowLengthLessGap() {
    ScaffoldYard x = sizes(0, 7);
    rowIs("3 just in the gap", x, true, 9, 2, 7);
    noRow("3 one below the gap", x, true, 9, 1);
    rowIs("3 the greatest gap", x, true, 106, 99, 7);
    rowIs("3 behind the greatest gap", x, true, 107, 99, 7, 7);
  }

  private static void aFitHasAtLeastOneBay() {
    ScaffoldYard x = sizes(0, 7);
    noRow("3 length less gap is 0", x, true, 6, 6);
    noRow("3 length less gap is -1", x, true, 5, 6);
    noRow("3 length less gap is far below", x, true, 1, 99);
    rowIs("3 length less gap is 0", x, true, 7, 7, 7);
    rowIs("3 length less gap is 1", x, true, 7, 6, 7);
    rowIs("3 length less gap is far below", x, true, 7, 99, 7);
    rowIs("3 the least length", sizes(0, 1), true, 1, 0, 1);
    rowIs("3 the least length, the greatest gap", sizes(0, 1), true, 1, 99, 1);
  }

  private static void aFitIsOfFewestThenGreatestThenFirst() {
    rowIs("3 fewest ahead of the greatest sum", sizes(0, 5, 3, 1), true, 9, 1, 5, 3);
    rowIs("3 fewest, not the greatest first", sizes(0, 25, 10, 1), true, 30, 0, 10, 10, 10);
    rowIs("3 fewest, the greatest not at all", sizes(0, 10, 6, 1), true, 12, 0, 6, 6);
    rowIs("3 the greatest sum", sizes(0, 4, 3), true, 9, 3, 4, 4);
    rowIs("3 the greatest sum ahead of the greater size", sizes(0, 7, 4), true, 8, 1, 7);
    rowIs("3 the greatest sum of two", sizes(0, 6, 4, 5), true, 11, 2, 6, 5);
    rowIs("3 greater at the first place", sizes(0, 3, 4, 5, 6), true, 9, 0, 6, 3);
    rowIs("3 greater at the second place", sizes(0, 4, 5, 6, 7), true, 18, 0, 7, 7, 4);
    rowIs("3 the same size twice", sizes(0, 4, 4, 4, 4, 4, 4), true, 8, 0, 4, 4);
    rowIs("3 six sizes", sizes(0, 32, 16, 8, 4, 2, 1), true, 63, 0, 32, 16, 8, 4, 2, 1);
  }

  private static void theLongestFits() {
    ScaffoldYard x = sizes(0, 0, 0, 0, 0, 0, 1);
    Due.is("3 a thousand bays", x.fit(1000, 0, 0, 0), 1000);
    Due.is("3 their sum", x.fit(1000, 99, 1, 0), 901);
    Due.is("3 the last of them", x.fit(1000, 0, 2, 999), 1);
    Due.is("3 none behind it", x.fit(1000, 0, 2, 1000), NONE);
    x = sizes(0, 100);
    Due.is("3 ten bays", x.fit(1000, 0, 0, 0), 10);
    Due.is("3 nine bays do not reach", x.fit(999, 98, 0, 0), NONE);
    Due.is("3 nine bays just reach", x.fit(999, 99, 0, 0), 9);
    x.table(0, 0, 0);
    noRow("3 a size is no more", x, true, 1000, 99);
  }

  private static void aJoinIsAtLeastTheLength() {
    ScaffoldYard x = sizes(1, 6);
    rowIs("4 just enough", x, false, 6, 0, 6);
    rowIs("4 one more", x, false, 7, 0, 6, 6);
    rowIs("4 one tube has no lap", x, false, 6, 50, 6);
    rowIs("4 two have one lap, just enough", x, false, 10, 2, 6, 6);
    rowIs("4 one more: three have two laps", x, false, 11, 2, 6, 6, 6);
    rowIs("4 just enough of three", x, false, 14, 2, 6, 6, 6);
    rowIs("4 the least length", sizes(1, 1), false, 1, 0, 1);
    rowIs("4 the least length, the greatest lap", sizes(1, 1), false, 1, 50, 1);
    rowIs("4 the greatest length", sizes(1, 100), false, 400, 0, 100, 100, 100, 100);
    rowIs("4 the greatest length and lap", sizes(1, 100), false, 400, 50, 100, 100, 100, 100, 100, 100, 100);
  }

  private static void aJoinHasOneToTwentyTubes() {
    ScaffoldYard x = sizes(1, 5);
    Due.is("4 nineteen", x.join(95, 0, 0, 0), 19);
    Due.is("4 twenty", x.join(96, 0, 0, 0), 20);
    Due.is("4 twenty, just enough", x.join(100, 0, 0, 0), 20);
    Due.is("4 the last of twenty", x.join(100, 0, 2, 19), 5);
    Due.is("4 none behind it", x.join(100, 0, 2, 20), NONE);
    noRow("4 twenty are too few", x, false, 101, 0);
    x = sizes(1, 51);
    Due.is("4 twenty with laps", x.join(70, 50, 0, 0), 20);
    Due.is("4 twenty with laps, sum", x.join(70, 50, 1, 0), 1020);
    noRow("4 twenty with laps are too few", x, false, 71, 50);
    Due.is("4 twenty of the least reach 20", sizes(1, 1).join(20, 0, 0, 0), 20);
    noRow("4 and no more", sizes(1, 1), false, 21, 0);
    Due.is("4 twenty of 20 reach the greatest length", sizes(1, 20).join(400, 0, 0, 0), 20);
    noRow("4 of 19 they do not", sizes(1, 19), false, 400, 0);
  }

  private static void aLapMayEatATube() {
    rowIs("4 a lap as long as the tube", sizes(1, 50), false, 50, 50, 50);
    noRow("4 more tubes do not help", sizes(1, 50), false, 51, 50);
    noRow("4 a longer lap", sizes(1, 6), false, 7, 7);
    rowIs("4 a lap longer than one tube, not than another", sizes(1, 3, 9), false, 12, 4, 9, 9);
    noRow("4 no tubes", new ScaffoldYard(), false, 1, 0);
    noRow("4 sizes of bays are no tubes", sizes(0, 9), false, 9, 0);
    noRow("3 sizes of tubes are no bays", sizes(1, 9), true, 9, 0);
  }

  private static void aJoinIsOfFewestThenLeastThenFirst() {
    rowIs("4 fewest ahead of the least sum", sizes(1, 10, 3), false, 6, 0, 10);
    rowIs("4 the least sum", sizes(1, 10, 7, 3), false, 6, 0, 7);
    rowIs("4 the least sum of two", sizes(1, 10, 7, 3), false, 13, 0, 10, 3);
    rowIs("4 greater at the first place", sizes(1, 4, 5, 6), false, 10, 0, 6, 4);
    rowIs("4 greater at the second place", sizes(1, 4, 5, 6, 7), false, 18, 0, 7, 7, 4);
    rowIs("4 the last place of the table", sizes(1, 0, 0, 0, 0, 0, 8), false, 8, 0, 8);
  }

  private static void oneAnswerDoesNotHangOnAnother() {
    ScaffoldYard x = new ScaffoldYard();
    x.table(1, 3, 5);
    noRow("3 no bays", x, true, 1000, 99);
    noRow("4 behind a fit that is none", x, false, 101, 0);
    rowIs("4 behind one that is none", x, false, 6, 0, 5, 5);
    x.table(0, 2, 7);
    rowIs("3 behind a join", x, true, 14, 0, 7, 7);
    noRow("4 behind a fit", x, false, 101, 0);
    rowIs("3 behind a join that is none", x, true, 7, 6, 7);
    noRow("3 behind one that is a row", x, true, 6, 6);
    x.table(0, 2, 0);
    noRow("3 as its size is no more", x, true, 14, 0);
    x.table(1, 3, 0);
    noRow("4 as its size is no more", x, false, 5, 0);
  }

  // ---- 2 FRAMES; promises 5 to 18

  private static void framesHaveRanges() {
    ScaffoldYard x = new ScaffoldYard();
    int[][] ends = {{0, 1, 1, 1}, {1, 6, 1, 1}, {2, 1, 20, 1}, {0, 1, 1, 100}, {2, 6, 20, 100}};
    for (int[] e : ends) {
      Due.is("5 at the ends", x.frame(e[0], e[1], e[2], e[3]), 0);
      Due.is("5 one bay", x.about(e[0], 0), 1);
      for (int what = 1; what < 4; what++) Due.is("5 what " + what, x.about(e[0], what), e[what]);
      Due.is("5 of kind 0", x.told(e[0], 0, 0), 0);
      Due.is("5 the width", x.told(e[0], 0, 1), e[3]);
      Due.is("5 the top lift", x.plan(e[0], 1, e[1] - 1, 2), 0);
      Due.is("5 none above", x.plan(e[0], 1, e[1], 2), INDEX);
    }
    Due.is("5 three frames", x.count(0), 3);
  }

  private static void aNewFrameHasNothingOfTheOld() {
    ScaffoldYard x = yard(6, 5, 7, 0, 0, 0, NETTED);
    for (int lift = 0; lift < 6; lift += 5) {
      x.floor(0, lift);
      x.board(0, 0, lift, 6);
      x.board(0, 3, lift, 6);
      x.brace(0, 3, lift, 1);
      x.tie(0, 4, lift, 1);
      x.tie(0, 0, lift, 1);
    }
    x.gust(0, 20);
    Due.is("5 anew", x.frame(0, 6, 5, 7), 0);
    for (int k = 1; k < 4; k++) x.bay(0, 0, 7);
    for (int what = 4; what < 8; what++) Due.is("5 nothing of what " + what, x.about(0, what), 0);
    for (int lift = 0; lift < 6; lift++) Due.is("5 the row is missing", x.strip(0, lift), NOTHING);
    Due.is("5 no change is kept", x.undo(), NO);
    Due.is("5 a lower frame", x.frame(0, 1, 1, 1), 0);
    Due.is("5 has no more lifts", x.floor(0, 1), INDEX);
    Due.is("5 has no more bays", x.told(0, 1, 0), INDEX);
  }

  private static void aNewFrameNeedsTheOldOneDownAndEmpty() {
    ScaffoldYard x = yard(1, 1, 1, 0);
    x.frame(1, 1, 1, 1);
    x.put(1, 1);
    Due.is("5 a piece of another frame is up", x.frame(0, 1, 1, 1), 0);
    Due.is("5 a piece of it is up", x.frame(1, 1, 1, 1), NO);
    x.take(1, 1);
    Due.is("5 none is up", x.frame(1, 1, 1, 1), 0);
    x.go(0, 400, 1);
    x.tag(0, 0, 1);
    for (int person = 0; person < 10; person += 9) {
      x.enter(person, 0, 0);
      x.go(0, 400, 0);
      Due.is("5 someone is on it", x.frame(0, 1, 1, 1), NO);
      Due.is("5 nobody is on another", x.frame(1, 1, 1, 1), 0);
      x.leave(person);
      Due.is("5 nobody is on it", x.frame(0, 1, 1, 1), 0);
      x.go(0, 400, 1);
      x.tag(0, 0, 1);
    }
  }

  private static void someoneOnALiftHoldsThatFrameAlone() {
    for (int f = 0; f < 3; f++) {
      for (int lift = 0; lift < 6; lift++) {
        ScaffoldYard x = new ScaffoldYard();
        x.frame(f, 6, 1, 1);
        x.go(f, 400, 1);
        x.tag(f, lift, 1);
        x.enter(lift, f, lift);
        x.go(f, 400, 0);
        for (int g = 0; g < 3; g++) Due.is("5 someone is on frame " + f + ", lift " + lift, x.frame(g, 1, 1, 1), g == f ? NO : 0);
      }
    }
  }

  private static void aFrameHasOneToTenBays() {
    ScaffoldYard x = new ScaffoldYard();
    x.frame(0, 1, 1, 100);
    Due.is("7 the only bay stays", x.drop(0), NO);
    for (int bay = 1; bay < 10; bay++) Due.is("6 its number", x.bay(0, bay % 5, 101 - 10 * bay), bay);
    x.gust(0, 1);
    Due.is("6 an eleventh", x.bay(0, 0, 1), FULL);
    Due.is("6 full: the changes are kept", x.count(5), 1);
    Due.is("6 full: ten still", x.about(0, 0), 10);
    Due.is("6 another frame is not full", x.frame(1, 1, 1, 1), 0);
    Due.is("6 another frame is not full", x.bay(1, 0, 1), 1);
    for (int bay = 9; bay > 0; bay--) Due.is("7 its width", x.drop(0), 101 - 10 * bay);
    Due.is("7 the first one stays", x.drop(0), NO);
    Due.is("7 one still", x.about(0, 0), 1);
    Due.is("6 the second again", x.bay(0, 4, 100), 1);
    Due.is("6 the greatest kind", x.told(0, 1, 0), 4);
    Due.is("6 the greatest width", x.told(0, 1, 1), 100);
  }

  private static void footIsAt(ScaffoldYard x, String feet) {
    for (int s = 0; s < feet.length(); s++) {
      Due.is("a foot of standard " + s + " in " + feet, x.foot(0, s, 0) == NONE ? 0 : 1, feet.charAt(s) == 'f' ? 1 : 0);
    }
    Due.is("the last standard of " + feet, x.foot(0, feet.length(), 0), INDEX);
  }

  private static void aStandardBetweenGatesHasNoFoot() {
    footIsAt(yard(2, 1, 1, 0), "ff");
    footIsAt(yard(2, 1, 1, 0, GATE), "fff");
    footIsAt(yard(2, 1, 1, 0, GATE, GATE), "ff.f");
    footIsAt(yard(2, 1, 1, 0, GATE, 0, GATE), "fffff");
    footIsAt(yard(2, 1, 1, 0, GATE, GATE, 0, GATE, GATE, GATE), "ff.ff..f");
    footIsAt(yard(2, 1, 1, 0, GATE, GATE, GATE, GATE, GATE, GATE, GATE, GATE, GATE), "ff........f");
    footIsAt(yard(1, 1, 1, 0, LOADING, HUNG, NETTED, LOADING), "ffffff");
  }

  private static void aTieGoesWithTheFoot() {
    ScaffoldYard x = yard(3, 1, 1, 0, GATE);
    for (int lift = 0; lift < 3; lift++) {
      x.tie(0, 1, lift, 1);
      x.tie(0, 2, lift, 1);
    }
    x.bay(0, GATE, 1);
    for (int lift = 0; lift < 3; lift++) {
      Due.is("a bay comes: the tie at lift " + lift, x.plan(0, 2, lift, 2), lift == 0 ? 0 : 1);
      Due.is("a bay comes: the next standard's", x.plan(0, 1, lift, 2), 1);
      Due.is("a bay comes: the new standard's", x.plan(0, 3, lift, 2), 0);
    }
    Due.is("12 none can be there", x.tie(0, 2, 0, 1), NO);
    Due.is("12 above there can", x.tie(0, 2, 1, 1), 1);
    x.drop(0);
    Due.is("a bay goes: the lost tie stays lost", x.plan(0, 2, 0, 2), 0);
    Due.is("a bay goes: the others stay", x.plan(0, 2, 2, 2), 1);
    Due.is("12 one can be there again", x.tie(0, 2, 0, 1), 0);
    x.bay(0, 0, 1);
    Due.is("a bay that is no gate: the tie stays", x.plan(0, 2, 0, 2), 1);
    x.drop(0);
    Due.is("it stays as that bay goes", x.plan(0, 2, 0, 2), 1);
    x.bay(0, GATE, 1);
    Due.is("and goes as a gate comes", x.plan(0, 2, 0, 2), 0);
  }

  private static void aDropTakesTheLastBayAndStandard() {
    ScaffoldYard x = yard(6, 1, 9, 0, 0, 0);
    for (int lift = 0; lift < 6; lift++) {
      x.floor(0, lift);
      for (int bay = 1; bay < 3; bay++) {
        x.board(0, bay, lift, bay);
        x.brace(0, bay, lift, 1);
        x.tie(0, bay + 1, lift, 1);
      }
    }
    Due.is("7 its width", x.drop(0), 9);
    Due.is("7 boards of the other bay", x.about(0, 4), 6);
    Due.is("7 braces of the other bay", x.about(0, 5), 6);
    Due.is("7 all ties of the last standard then", x.about(0, 6), 6);
    x.bay(0, 0, 9);
    for (int lift = 0; lift < 6; lift++) {
      Due.is("7 boards are no more", x.plan(0, 2, lift, 0), -1);
      Due.is("7 a brace is no more", x.plan(0, 2, lift, 1), 0);
      Due.is("7 a tie is no more", x.plan(0, 3, lift, 2), 0);
      Due.is("7 the rows stay", x.floor(0, lift), 0);
    }
    x.frame(1, 1, 1, 1);
    x.bay(1, 0, 2);
    x.put(0, 0);
    Due.is("7 a piece of another frame is up", x.drop(1), 2);
    Due.is("7 a piece of it is up", x.drop(0), NO);
  }

  private static void rowsAreMissingAtFirst() {
    ScaffoldYard x = yard(6, 1, 1, 0);
    for (int lift = 0; lift < 6; lift++) {
      Due.is("9 missing", x.strip(0, lift), NOTHING);
      Due.is("10 missing", x.board(0, 0, lift, 0), NOTHING);
      Due.is("18 missing: no boards", x.plan(0, 0, lift, 0), -1);
    }
    for (int lift = 0; lift < 6; lift += 5) {
      Due.is("8 it is there", x.floor(0, lift), 1);
      Due.is("8 it was there", x.floor(0, lift), 0);
      Due.is("8 no boards", x.plan(0, 0, lift, 0), -1);
      Due.is("9 none at all", x.strip(0, lift), 0);
      Due.is("9 it is missing", x.strip(0, lift), NOTHING);
      Due.is("8 it is there again", x.floor(0, lift), 1);
    }
    Due.is("8 each lift has its own", x.floor(0, 1), 1);
  }

  private static void aFloorThatIsThereKeepsItsBoards() {
    ScaffoldYard x = yard(1, 1, 1, 0, 0);
    x.floor(0, 0);
    x.board(0, 1, 0, 6);
    Due.is("8 it was there", x.floor(0, 0), 0);
    Due.is("8 its boards stay", x.plan(0, 1, 0, 0), 6);
    x.go(0, 400, 1);
    Due.is("8 they may be up", x.floor(0, 0), 0);
    Due.is("14 and it may be taken back", x.undo(), 3);
    Due.is("14 they stay", x.plan(0, 1, 0, 0), 6);
  }

  private static void aStripTakesAllBoardsOfItsLift() {
    ScaffoldYard x = yard(2, 1, 1, 0, 0, 0, 0, 0, 0, 0, 0, 0, 0);
    x.floor(0, 0);
    x.floor(0, 1);
    for (int bay = 0; bay < 10; bay++) {
      x.board(0, bay, 1, bay % 7);
      x.brace(0, bay, 1, 1);
    }
    x.board(0, 9, 0, 3);
    x.tie(0, 10, 1, 1);
    Due.is("9 all ten", x.strip(0, 1), 10);
    Due.is("9 those of another lift stay", x.about(0, 4), 1);
    Due.is("9 braces stay", x.about(0, 5), 10);
    Due.is("9 ties stay", x.about(0, 6), 1);
    Due.is("14", x.undo(), 4);
    for (int bay = 0; bay < 10; bay++) Due.is("14 all ten again", x.plan(0, bay, 1, 0), bay % 7);
    Due.is("9 gone once more", x.strip(0, 1), 10);
    x.floor(0, 1);
    for (int bay = 0; bay < 10; bay++) Due.is("9 bare", x.plan(0, bay, 1, 0), -1);
  }

  private static void aStripIsRefusedWhileOneOfItsBoardsIsUp() {
    for (int bay = 0; bay < 10; bay += 9) {
      ScaffoldYard x = yard(2, 1, 1, 0, 0, 0, 0, 0, 0, 0, 0, 0, 0);
      x.floor(0, 0);
      x.floor(0, 1);
      x.board(0, bay, 0, 1);
      x.go(0, 400, 1);
      x.board(0, 5, 0, 1);
      x.board(0, 5, 1, 1);
      Due.is("9 one of them is up", x.strip(0, 0), NO);
      Due.is("9 those of another lift are", x.strip(0, 1), 1);
      x.take(0, BOARDS + bay);
      Due.is("9 none is up", x.strip(0, 0), 2);
    }
  }

  private static void boardsHaveAClassOrAreNone() {
    ScaffoldYard x = yard(6, 1, 1, 0, GATE);
    for (int lift = 0; lift < 6; lift++) x.floor(0, lift);
    int was = -1;
    for (int load : new int[] {0, 6, -1, -1, 6, 0, 0, -1}) {
      Due.is("10 what there was", x.board(0, 0, 5, load), was);
      Due.is("18 what there is", x.plan(0, 0, 5, 0), load);
      Due.is("15 whether there are any", x.about(0, 4), load < 0 ? 0 : 1);
      was = load;
    }
    Due.is("10 a gate at lift 0", x.board(0, 1, 0, 1), NO);
    Due.is("10 a gate at lift 0, none", x.board(0, 1, 0, -1), NO);
    Due.is("10 a gate at lift 1", x.board(0, 1, 1, 1), -1);
    Due.is("10 a bay at lift 0", x.board(0, 0, 0, 1), -1);
    x.go(0, 400, 1);
    Due.is("10 they are up", x.board(0, 1, 1, 2), NO);
    Due.is("10 they are up, none", x.board(0, 1, 1, -1), NO);
    Due.is("10 they are up, the same", x.board(0, 1, 1, 1), NO);
    Due.is("10 those above are not", x.board(0, 1, 2, 2), -1);
    Due.is("10 those beside are not", x.board(0, 0, 1, 2), -1);
    x.take(0, BOARDS + 11 + 1);
    Due.is("10 they are down", x.board(0, 1, 1, -1), 1);
  }

  private static void bracesAndTiesAreOrAreNot() {
    ScaffoldYard x = yard(6, 1, 1, 0, GATE, GATE);
    int was = 0;
    for (int on : new int[] {0, 1, 1, 0, 0, 1}) {
      Due.is("11 what there was", x.brace(0, 2, 5, on), was);
      Due.is("18 what there is", x.plan(0, 2, 5, 1), on);
      Due.is("12 what there was", x.tie(0, 3, 5, on), was);
      Due.is("18 what there is", x.plan(0, 3, 5, 2), on);
      was = on;
    }
    Due.is("11 a gate at lift 0", x.brace(0, 1, 0, 1), NO);
    Due.is("11 a gate at lift 1", x.brace(0, 1, 1, 1), 0);
    Due.is("11 a bay at lift 0", x.brace(0, 0, 0, 1), 0);
    Due.is("12 no foot, lift 0", x.tie(0, 2, 0, 1), NO);
    Due.is("12 no foot, lift 1", x.tie(0, 2, 1, 1), 0);
    Due.is("12 a foot beside a gate, lift 0", x.tie(0, 1, 0, 1), 0);
    x.go(0, 400, 1);
    for (int on = 0; on < 2; on++) {
      Due.is("11 it is up", x.brace(0, 2, 5, on), NO);
      Due.is("12 it is up", x.tie(0, 3, 5, on), NO);
    }
    Due.is("11 that below is not", x.brace(0, 2, 4, 1), 0);
    Due.is("12 that below is not", x.tie(0, 3, 4, 1), 0);
    x.take(0, BRACE + 55 + 2);
    x.take(0, TIE + 55 + 3);
    Due.is("11 it is down", x.brace(0, 2, 5, 0), 1);
    Due.is("12 it is down", x.tie(0, 3, 5, 0), 1);
  }

  private static void windIsOfEachFrame() {
    ScaffoldYard x = yard(1, 1, 1, 0);
    x.frame(2, 1, 1, 1);
    Due.is("13 at first", x.gust(0, 20), 0);
    Due.is("13 another frame's", x.gust(2, 1), 0);
    Due.is("13 the most", x.gust(0, 0), 20);
    Due.is("13 the least", x.gust(0, 20), 0);
    Due.is("15 the most", x.about(0, 7), 20);
    Due.is("15 another frame's", x.about(2, 7), 1);
  }

  private static void kindsOfBays() {
    ScaffoldYard x = yard(1, 1, 1, 0, GATE, LOADING, HUNG, NETTED);
    String[] of = {"10000", "11000", "10100", "10010", "10101"};
    for (int bay = 0; bay < 5; bay++) {
      Due.is("16 kind", x.told(0, bay, 0), bay);
      for (int kind = 0; kind < 5; kind++) Due.is("17 bay " + bay + " of " + kind, x.isOf(0, bay, kind), of[bay].charAt(kind) - '0');
    }
  }

  /** Ten bays and six lifts, with all that the plan can have: 60 boards, 60 braces, 66 ties. */
  private static ScaffoldYard full() {
    ScaffoldYard x = yard(6, 20, 100, 0, 0, 0, 0, 0, 0, 0, 0, 0, 0);
    for (int lift = 0; lift < 6; lift++) {
      x.floor(0, lift);
      for (int bay = 0; bay < 10; bay++) {
        x.board(0, bay, lift, 6);
        x.brace(0, bay, lift, 1);
      }
      for (int s = 0; s < 11; s++) x.tie(0, s, lift, 1);
    }
    return x;
  }

  private static void theFullPlan() {
    ScaffoldYard x = full();
    x.gust(0, 20);
    int[] want = {10, 6, 20, 1000, 60, 60, 66, 20};
    for (int what = 0; what < 8; what++) Due.is("15 what " + what, x.about(0, what), want[what]);
    Due.is("18 the last boards", x.plan(0, 9, 5, 0), 6);
    Due.is("18 the last brace", x.plan(0, 9, 5, 1), 1);
    Due.is("18 the last tie", x.plan(0, 10, 5, 2), 1);
    Due.is("18 no boards behind", x.plan(0, 10, 5, 0), INDEX);
    Due.is("18 no brace behind", x.plan(0, 10, 5, 1), INDEX);
    Due.is("18 no tie behind", x.plan(0, 11, 5, 2), INDEX);
    Due.is("18 nothing above", x.plan(0, 0, 6, 2), INDEX);
    // Boards weigh 206, half of it goes to each side, and a standard 120.
    Due.is("19 the first standard", x.load(0, 0), 240 + 6 * 206);
    Due.is("19 one between", x.load(0, 5), 240 + 12 * 206);
    Due.is("19 the last standard", x.load(0, 10), 240 + 6 * 206);
    Due.is("26 no rule is broken", x.rule(0, 1) + x.rule(2, 1) + x.breaches(0), 0);
    Due.is("31 but one", x.go(0, 311, 1), 311);
    Due.is("30 the last", x.next(0, 0), TIE + 65);
    Due.is("31 the last", x.go(0, 400, 1), 1);
    Due.is("44 all", x.count(1), 312);
    Due.is("30 none", x.next(0, 2), NONE);
    Due.is("30 the greatest", x.next(0, 1), TIE + 65);
    Due.is("24 some are over", x.over(0, 0), 0x3FE);
    x.table(2, 1, 120 + 6 * 206);
    Due.is("35 all lifts", x.tag(0, 5, 30), 29);
    Due.is("31 all down", x.go(0, 400, 0), 312);
    Due.is("36 the tag ended", x.tagged(0, 5), NONE);
  }

  // ---- 7 CHANGES; promise 14

  private static void theLatestFiveAreKept() {
    ScaffoldYard x = yard(1, 1, 1, 0);
    Due.is("14 none at first", x.undo(), NO);
    for (int p = 1; p <= 4; p++) x.gust(0, p);
    Due.is("44 four", x.count(5), 4);
    x.gust(0, 5);
    Due.is("44 five", x.count(5), 5);
    x.gust(0, 6);
    Due.is("44 five still", x.count(5), 5);
    for (int k = 4; k >= 0; k--) {
      Due.is("14 kept still", x.undo(), k);
      Due.is("14 as it was", x.about(0, 7), k + 1);
    }
    Due.is("14 the sixth is no more kept", x.undo(), NO);
    Due.is("14 what it did stays", x.about(0, 7), 1);
    Due.is("44 none", x.count(5), 0);
  }

  private static void changesComeAndGo() {
    ScaffoldYard x = yard(1, 1, 1, 0);
    // Each round three more and two back, so that the oldest ones are pushed out at each place.
    int[] winds = new int[64];
    int at = 0, kept = 0, p = 0;
    for (int round = 0; round < 12; round++) {
      for (int k = 0; k < 3; k++) {
        p = p % 20 + 1;
        x.gust(0, p);
        winds[++at] = p;
        kept = Math.min(5, kept + 1);
      }
      for (int k = 0; k < 2; k++) {
        kept--;
        Due.is("14 kept still", x.undo(), kept);
        Due.is("14 as it was", x.about(0, 7), winds[--at]);
      }
    }
    while (kept > 0) {
      kept--;
      Due.is("14 to the last", x.undo(), kept);
      Due.is("14 as it was", x.about(0, 7), winds[--at]);
    }
    Due.is("14 none", x.undo(), NO);
  }

  private static void eachKindOfChangeIsTakenBack() {
    ScaffoldYard x = yard(2, 1, 1, 0, 0);
    x.floor(0, 1);
    x.board(0, 1, 1, 4);
    x.brace(0, 1, 1, 1);
    x.tie(0, 2, 1, 1);
    x.gust(0, 9);
    Deed[] deeds = {
      y -> y.floor(0, 0), y -> y.floor(0, 1), y -> y.strip(0, 1), y -> y.board(0, 1, 1, 6), y -> y.board(0, 1, 1, -1),
      y -> y.board(0, 0, 1, 0), y -> y.board(0, 0, 1, -1), y -> y.brace(0, 1, 1, 0), y -> y.brace(0, 0, 0, 1), y -> y.brace(0, 1, 1, 1),
      y -> y.tie(0, 2, 1, 0), y -> y.tie(0, 0, 0, 1), y -> y.tie(0, 2, 1, 1), y -> y.gust(0, 20), y -> y.gust(0, 9), y -> y.gust(0, 0),
    };
    for (int k = 0; k < deeds.length; k++) {
      deeds[k].on(x);
      Due.is("14 change " + k + " is kept", x.count(5), 5);
      Due.is("14 change " + k, x.undo(), 4);
      Due.is("14 boards behind change " + k, x.plan(0, 1, 1, 0), 4);
      Due.is("14 boards behind change " + k, x.about(0, 4), 1);
      Due.is("14 braces behind change " + k, x.plan(0, 1, 1, 1) + x.about(0, 5), 2);
      Due.is("14 ties behind change " + k, x.plan(0, 2, 1, 2) + x.about(0, 6), 2);
      Due.is("14 wind behind change " + k, x.about(0, 7), 9);
      Due.is("14 the row of lift 0 behind change " + k, x.board(0, 0, 0, 1), NOTHING);
      // Puts back the change that was pushed out: a wind that is the same.
      x.gust(0, 9);
    }
  }

  private static void changesOfAllFramesAreKeptTogether() {
    ScaffoldYard x = yard(1, 1, 1, 0);
    x.frame(1, 1, 1, 1);
    x.frame(2, 1, 1, 1);
    for (int f = 0; f < 3; f++) x.tie(f, 1, 0, 1);
    x.gust(1, 3);
    Due.is("14 of frame 1", x.undo(), 3);
    Due.is("14 of frame 1", x.about(1, 7) + 10 * x.about(1, 6), 10);
    Due.is("14 of frame 2", x.undo(), 2);
    Due.is("14 of frame 2", x.about(2, 6), 0);
    Due.is("14 of frame 1 again", x.undo(), 1);
    Due.is("14 of frame 1 again", x.about(1, 6), 0);
    Due.is("14 of frame 0 is left", x.about(0, 6), 1);
    Due.is("14 of frame 0", x.undo(), 0);
    Due.is("14 of frame 0", x.about(0, 6), 0);
  }

  private static void noneIsKeptBehindFrameBayDrop() {
    for (int which = 0; which < 3; which++) {
      ScaffoldYard x = yard(1, 1, 1, 0);
      x.frame(1, 1, 1, 1);
      x.bay(1, 0, 1);
      x.gust(0, 5);
      if (which == 0) Due.is("refused", x.frame(2, 7, 1, 1), BAD);
      if (which == 1) Due.is("refused", x.bay(2, 0, 1), NO);
      if (which == 2) Due.is("refused", x.drop(0), NO);
      Due.is("44 kept behind one that is refused", x.count(5), 1);
      if (which == 0) x.frame(2, 1, 1, 1);
      if (which == 1) x.bay(1, 0, 1);
      if (which == 2) x.drop(1);
      Due.is("44 none is kept", x.count(5), 0);
      Due.is("14 none is kept", x.undo(), NO);
      Due.is("14 the wind stays", x.about(0, 7), 5);
      x.gust(0, 6);
      Due.is("14 a new one is", x.undo(), 0);
    }
  }

  private static void otherCallsAreNoChanges() {
    ScaffoldYard x = yard(1, 1, 1, 0);
    x.table(0, 0, 1);
    x.rule(0, 1);
    x.stock(0, 1, 1);
    x.go(0, 400, 1);
    x.take(0, LEDGER);
    x.put(0, LEDGER);
    x.rule(0, 0);
    x.tag(0, 0, 1);
    x.enter(0, 0, 0);
    x.leave(0);
    x.storm();
    x.day(1);
    Due.is("44 none of these is one", x.count(5), 0);
    x.gust(0, 1);
    x.undo();
    Due.is("44 nor is undo", x.count(5), 0);
    Due.is("14 what was taken back is gone", x.undo(), NO);
  }

  private static void undoWaitsForPiecesThatAreUp() {
    ScaffoldYard x = yard(2, 1, 1, 0, 0);
    x.floor(0, 0);
    x.board(0, 1, 0, 0);
    x.brace(0, 1, 1, 1);
    x.tie(0, 2, 1, 1);
    x.go(0, 400, 1);
    Due.is("14 the tie is up", x.undo(), NO);
    Due.is("44 kept", x.count(5), 4);
    x.take(0, TIE + 11 + 2);
    Due.is("14 the tie is down", x.undo(), 3);
    Due.is("14 the brace is up", x.undo(), NO);
    x.take(0, BRACE + 11 + 1);
    Due.is("14 the brace is down", x.undo(), 2);
    Due.is("14 the boards are up", x.undo(), NO);
    x.take(0, BOARDS + 1);
    Due.is("14 the boards are down", x.undo(), 1);
    Due.is("14 the row", x.undo(), 0);
    Due.is("14 what is up stays", x.count(1), 6 + 4);
  }

  private static void undoThatOnlyBringsBackIsNotRefused() {
    ScaffoldYard x = yard(1, 1, 1, 0);
    x.floor(0, 0);
    x.board(0, 0, 0, 6);
    x.brace(0, 0, 0, 1);
    x.tie(0, 0, 0, 1);
    x.tie(0, 0, 0, 0);
    x.brace(0, 0, 0, 0);
    x.board(0, 0, 0, -1);
    x.go(0, 400, 1);
    Due.is("14 the boards come back", x.undo(), 4);
    Due.is("14 the brace comes back", x.undo(), 3);
    Due.is("14 the tie comes back", x.undo(), 2);
    Due.is("14 all are there", x.plan(0, 0, 0, 0) + x.plan(0, 0, 0, 1) + x.plan(0, 0, 0, 2), 8);
    Due.is("14 and not up", x.next(0, 0), BRACE);
    x.board(0, 0, 0, 5);
    x.put(0, BOARDS);
    Due.is("14 boards of another class stay up", x.undo(), 2);
    Due.is("14 they stay up", x.isUp(0, BOARDS), 1);
    Due.is("14 of the class they had", x.plan(0, 0, 0, 0), 6);
    x.take(0, BOARDS);
    x.board(0, 0, 0, 0);
    x.board(0, 0, 0, 6);
    x.put(0, BOARDS);
    Due.is("14 of the least class they stay up, too", x.undo(), 3);
    Due.is("14 of the least class", x.plan(0, 0, 0, 0), 0);
    Due.is("14 and of the greatest", x.undo(), 2);
    Due.is("14 they stay up", x.isUp(0, BOARDS), 1);
    x.brace(0, 0, 0, 1);
    x.put(0, BRACE);
    Due.is("14 a brace that was there all along", x.undo(), 2);
    Due.is("14 stays up", x.isUp(0, BRACE), 1);
  }

  private static void whatAltersNothingIsAChangeAllTheSame() {
    Deed[] same = {y -> y.floor(0, 0), y -> y.board(0, 0, 0, 4), y -> y.board(0, 1, 0, -1), y -> y.brace(0, 0, 0, 1), y -> y.brace(0, 1, 0, 0),
      y -> y.tie(0, 0, 0, 1), y -> y.tie(0, 1, 0, 0), y -> y.gust(0, 6)};
    for (int k = 0; k < same.length; k++) {
      ScaffoldYard x = yard(1, 1, 1, 0);
      x.floor(0, 0);
      x.board(0, 0, 0, 4);
      x.brace(0, 0, 0, 1);
      x.tie(0, 0, 0, 1);
      x.gust(0, 6);
      x.bay(0, 0, 1);
      x.frame(1, 1, 1, 1);
      x.gust(1, 1);
      same[k].on(x);
      Due.is("7 a change, " + k, x.count(5), 2);
      Due.is("14 it is taken back, " + k, x.undo(), 1);
      Due.is("14 nothing is otherwise, " + k, x.about(1, 7) + 10 * x.about(0, 7) + 100 * x.about(0, 4) + 1000 * x.about(0, 5) + 10000 * x.about(0, 6), 11161);
      Due.is("14 the one ahead of it, " + k, x.undo(), 0);
      Due.is("14 the one ahead of it, " + k, x.about(1, 7), 0);
    }
  }

  private static void piecesOfAnotherFrameAreNoMatter() {
    ScaffoldYard x = new ScaffoldYard();
    for (int f = 0; f < 3; f++) {
      x.frame(f, 1, 1, 1);
      x.bay(f, 0, 1);
    }
    for (int f = 0; f < 3; f += 2) {
      x.floor(f, 0);
      x.board(f, 0, 0, 1);
      x.brace(f, 0, 0, 1);
      x.tie(f, 0, 0, 1);
      x.go(f, 400, 1);
    }
    x.floor(1, 0);
    Due.is("10 boards of others are up", x.board(1, 0, 0, 1), -1);
    Due.is("11 braces of others are up", x.brace(1, 0, 0, 1), 0);
    Due.is("12 ties of others are up", x.tie(1, 0, 0, 1), 0);
    for (int k = 4; k > 1; k--) Due.is("14 pieces of others are up", x.undo(), k);
    Due.is("10 again", x.board(1, 0, 0, 1), -1);
    Due.is("9 boards of others are up", x.strip(1, 0), 1);
    Due.is("28 tubes of others are up", x.put(1, LEDGER), NO);
    Due.is("28 how many of that frame", x.put(1, TUBE), 1);
    Due.is("29 what others need", x.take(1, TUBE), 0);
    Due.is("29 how many of that frame", x.take(2, TIE), 7);
    Due.is("44 in all", x.count(1), 15);
    Due.is("6 pieces of others are up", x.bay(1, 0, 1), 2);
    Due.is("7 pieces of others are up", x.drop(1), 1);
    Due.is("35 pieces of others are not up", x.tag(0, 0, 1), 0);
    x.frame(1, 1, 20, 100);
    x.table(2, 1, 19);
    x.rule(0, 1);
    x.tie(0, 2, 0, 1);
    x.go(0, 400, 1);
    Due.is("24 standards of another frame are over", x.over(1, 0), 3);
    Due.is("26 another frame breaks a rule", x.breaches(1), 1);
    Due.is("35 those of others are no matter", x.tag(0, 0, 1), 0);
    Due.is("35 its own are", x.tag(1, 0, 1), NO);
  }

  // ---- 2 LOADS; promises 19 and 20

  private static void boardsWeigh() {
    int[] kinds = {0, GATE, LOADING, HUNG, NETTED};
    for (int kind = 1; kind < 5; kind++) {
      for (int load = 0; load <= 6; load += 6) {
        ScaffoldYard x = yard(2, 3, 10, 0, kinds[kind], 0);
        x.floor(0, 1);
        x.board(0, 1, 1, load);
        int weight = 20 + (kind == LOADING || kind == NETTED ? 2 * load : load);
        Due.is("19 beside", x.load(0, 0), 12);
        Due.is("19 to the left, kind " + kind, x.load(0, 1), 12 + (kind == HUNG ? 2 * weight : weight));
        Due.is("19 to the right, kind " + kind, x.load(0, 2), 12 + (kind == HUNG ? 0 : weight));
        Due.is("19 beside", x.load(0, 3), 12);
        x.board(0, 1, 1, -1);
        Due.is("19 no boards", x.load(0, 1), 12);
      }
    }
  }

  private static void boardsOfAllLiftsCount() {
    ScaffoldYard x = yard(6, 1, 1, 0);
    for (int lift = 0; lift < 6; lift++) {
      x.floor(0, lift);
      x.board(0, 0, lift, 1);
      Due.is("19 up to lift " + lift, x.load(0, 0), 12 + 3 * (lift + 1));
      Due.is("19 up to lift " + lift, x.load(0, 1), 12 + 3 * (lift + 1));
    }
    x.strip(0, 5);
    Due.is("19 a row less", x.load(0, 0), 12 + 15);
    x.go(0, 400, 1);
    Due.is("19 up or not", x.load(0, 0), 12 + 15);
  }

  private static void aStandardWeighsItsHeight() {
    for (int lifts = 1; lifts <= 6; lifts += 5) {
      for (int height = 1; height <= 20; height += 19) {
        ScaffoldYard x = yard(lifts, height, 1, 0, GATE, GATE);
        Due.is("19 with a foot", x.load(0, 1), 2 * lifts * height);
        Due.is("19 without", x.load(0, 2), 2 * (lifts - 1) * height);
        Due.is("19 the last one", x.load(0, 3), 2 * lifts * height);
      }
    }
  }

  private static void fractionIs(String name, ScaffoldYard x, int standard, long above, long below) {
    Due.is(name + ", above", x.foot(0, standard, 0), above);
    Due.is(name + ", below", x.foot(0, standard, 1), below);
  }

  private static void fractionsAreInLowestTerms() {
    ScaffoldYard x = yard(2, 1, 1, 0);
    fractionIs("20 whole", x, 0, 2, 1);
    x.floor(0, 0);
    x.board(0, 0, 0, 1);
    fractionIs("20 a half", x, 0, 7, 2);
    x.board(0, 0, 0, 2);
    fractionIs("20 two halves", x, 0, 4, 1);
    x = new ScaffoldYard();
    x.frame(0, 2, 1, 1);
    x.bay(0, GATE, 1);
    x.bay(0, GATE, 2);
    // The standard between has 1; 2 / 3 of it go to the left, over the bay of 1.
    fractionIs("20 to the left", x, 1, 8, 3);
    fractionIs("20 to the right", x, 3, 7, 3);
    x.floor(0, 1);
    x.board(0, 2, 1, 1);
    // Then it has 1 + 5 / 2, and so has the one on the right; 2 / 3 of 7 / 2 go to the left.
    fractionIs("20 to the left, a half more", x, 1, 13, 3);
    fractionIs("20 to the right, a half more", x, 3, 17, 3);
  }

  private static void manyGatesSideBySide() {
    ScaffoldYard x = new ScaffoldYard();
    x.frame(0, 2, 1, 7);
    for (int k = 1; k < 10; k++) x.bay(0, GATE, k == 9 ? 2 : 1);
    // Standards 2 .. 9 have 1 each; 10 in all lies between the feet 1 and 10; 9 + .. + 2 come to the left.
    fractionIs("20 the left foot", x, 1, 2 * 5 + 22, 5);
    fractionIs("20 the right foot", x, 10, 2 * 5 + 18, 5);
    fractionIs("20 another foot", x, 0, 2, 1);
    for (int s = 2; s < 10; s++) Due.is("20 no foot", x.foot(0, s, 1), NONE);
  }

  private static void theGreatestFraction() {
    int[] widths = {100, 97, 100, 99, 98, 96, 95, 94, 93, 100};
    ScaffoldYard x = new ScaffoldYard();
    x.frame(0, 6, 20, widths[0]);
    for (int k = 1; k < 10; k++) x.bay(0, GATE, widths[k]);
    for (int lift = 1; lift < 6; lift++) {
      x.floor(0, lift);
      for (int bay = 0; bay < 10; bay++) x.board(0, bay, lift, 6 - bay % 2);
    }
    long all = 0, left = 0, right = 0, twice = 0;
    for (int k = 1; k < 10; k++) all += widths[k];
    long a = 0;
    for (int s = 2; s < 10; s++) {
      a += widths[s - 1];
      twice = 2 * 100 + 5 * (2 * widths[s] + 6 - s % 2 + 2 * widths[s - 1] + 6 - (s - 1) % 2);
      Due.is("19 without a foot", x.load(0, s), twice);
      left += twice * (all - a);
      right += twice * a;
    }
    long leftOwn = 2 * 120 + 5 * (200 + 6 + 2 * 97 + 5), rightOwn = 2 * 120 + 5 * (200 + 5);
    Due.is("20 as a whole, left", x.foot(0, 1, 0) * 2 * all, x.foot(0, 1, 1) * (leftOwn * all + left));
    Due.is("20 as a whole, right", x.foot(0, 10, 0) * 2 * all, x.foot(0, 10, 1) * (rightOwn * all + right));
  }

  // ---- 2 WIND; promises 21 and 22

  private static void windPressesNettedBaysAtEachLift() {
    ScaffoldYard x = yard(6, 20, 100, 0, NETTED, LOADING, HUNG, GATE);
    Due.is("22 no wind", x.lost(0), 0);
    x.gust(0, 1);
    Due.is("22 the least", x.lost(0), 6 * 2000);
    x.gust(0, 20);
    Due.is("22 the most", x.lost(0), 6 * 40000);
    x.tie(0, 5, 5, 1);
    Due.is("22 a tie holds all", x.lost(0), 0);
    Due.is("21 all of it", x.wind(0, 5, 5), 6 * 40000);
    Due.is("21 where there is no tie", x.wind(0, 5, 4), 0);
    x.gust(0, 0);
    Due.is("21 no wind", x.wind(0, 5, 5), 0);
    x.gust(0, 1);
    x.tie(0, 5, 5, 0);
    Due.is("21 no tie", x.wind(0, 5, 5), 0);
    Due.is("22 lost again", x.lost(0), 6 * 2000);
    ScaffoldYard none = yard(6, 20, 100, 0, LOADING, HUNG, GATE);
    none.gust(0, 20);
    Due.is("22 no netted bay", none.lost(0), 0);
  }

  /** Bay 2 of three lifts is netted, with 1 at each: how many of them go to one of two ties; the rest go to the other. */
  private static void nearer(String name, int s, int k, int otherS, int otherK, int many) {
    ScaffoldYard x = yard(3, 1, 1, 0, 0, NETTED, 0, 0);
    x.gust(0, 1);
    x.tie(0, otherS, otherK, 1);
    x.tie(0, s, k, 1);
    Due.is(name, x.wind(0, s, k), many);
    Due.is(name + ", the other", x.wind(0, otherS, otherK), 3 - many);
  }

  private static void windGoesToTheNearestTie() {
    nearer("21 of two beside the least standard", 2, 1, 3, 1, 3);
    nearer("21 of two of one standard the least lift", 2, 0, 2, 2, 2);
    nearer("21 the least standard ahead of the least lift", 2, 2, 3, 0, 2);
    nearer("21 a standard further is as far as a lift: the lesser", 2, 1, 4, 0, 3);
    nearer("21 a standard further is as far as a lift: the lesser", 1, 0, 3, 1, 1);
    nearer("21 two lifts are further than a standard", 4, 0, 2, 2, 1);
    nearer("21 two lifts are further than a standard", 1, 2, 3, 0, 1);
    nearer("21 the nearer lift", 3, 2, 2, 0, 1);
    nearer("21 far to the right", 5, 1, 4, 1, 0);
    nearer("21 far to the left", 0, 1, 1, 1, 0);
    nearer("21 far on both sides: the lesser", 0, 1, 5, 1, 3);
  }

  private static void theFirstTieAndTheLastHoldWind() {
    ScaffoldYard x = yard(6, 1, 1, 0, NETTED, 0, 0, 0, 0, 0, 0, 0, NETTED);
    x.gust(0, 1);
    x.tie(0, 0, 0, 1);
    Due.is("21 the first alone", x.wind(0, 0, 0), 12);
    Due.is("22 nothing is lost", x.lost(0), 0);
    x.table(2, 0, 11);
    Due.is("24 the first is over", x.over(0, 1), 1);
    x.tie(0, 10, 5, 1);
    Due.is("21 the first", x.wind(0, 0, 0), 6);
    Due.is("21 the last", x.wind(0, 10, 5), 6);
    Due.is("24 none is over", x.over(0, 1), 0);
    x.table(2, 0, 5);
    Due.is("24 both are over", x.over(0, 1), 2);
    x.tie(0, 0, 0, 0);
    Due.is("21 the last alone", x.wind(0, 10, 5), 12);
    Due.is("22 nothing is lost", x.lost(0), 0);
    x.table(2, 0, 11);
    Due.is("24 the last is over", x.over(0, 1), 1);
  }

  // ---- 2 FREE and OVER; promises 23 and 24

  /** Ties of standard 1, or of standard 2 that has no foot, by lifts: x is one. */
  private static void freeIs(String ties, boolean footed, int want) {
    ScaffoldYard x = yard(ties.length(), 1, 1, 0, GATE, GATE);
    int s = footed ? 1 : 2;
    for (int lift = 0; lift < ties.length(); lift++) if (ties.charAt(lift) == 'x') x.tie(0, s, lift, 1);
    Due.is("23 free of " + ties + (footed ? "" : ", no foot"), x.free(0, s), want);
  }

  private static void freeLifts() {
    String[] ties = {".", "x", "..", "x.", ".x", "xx", "......", "x.....", ".....x", "..x...", "...x..", "x....x", "x..x..", "xxxxxx", ".x.x.x", "xxx..x", "x...xx"};
    int[] want = {1, 1, 2, 1, 2, 1, 6, 5, 6, 3, 4, 5, 3, 1, 2, 3, 4};
    for (int k = 0; k < ties.length; k++) freeIs(ties[k], true, want[k]);
    String[] others = {".", "..", ".x", "...", "..x", ".x.", ".xx", "......", ".....x", ".x....", "..x...", ".x...x", "...x..", ".xxxxx", "..x.x."};
    int[] due = {1, 1, 1, 2, 2, 1, 1, 5, 5, 4, 3, 4, 3, 1, 2};
    for (int k = 0; k < others.length; k++) freeIs(others[k], false, due[k]);
  }

  private static void eachFreeHasItsPlace() {
    ScaffoldYard x = yard(6, 1, 1, 0, 0, 0, 0, 0, 0);
    // Standard s has ties so that it is free for 6 - s lifts; standard 5 for one, standard 6 for six.
    for (int s = 1; s < 6; s++) x.tie(0, s, s - 1, 1);
    int[][] more = {{3, 5}, {4, 1}, {4, 5}, {5, 0}, {5, 1}, {5, 2}, {5, 3}, {5, 5}};
    for (int[] m : more) x.tie(0, m[0], m[1], 1);
    int[] free = {6, 5, 4, 3, 2, 1, 6};
    for (int s = 0; s < 7; s++) Due.is("23 standard " + s, x.free(0, s), free[s]);
    for (int place = 0; place < 7; place++) {
      x.table(2, place, 0);
      int bits = 0;
      for (int s = 0; s < 7; s++) if (free[s] == place) bits |= 1 << s;
      Due.is("24 place " + place + " alone", x.over(0, 0), bits);
      x.table(2, place, 6);
      Due.is("24 just what it bears, place " + place, x.over(0, 0), 0);
    }
  }

  private static void overIsAbove() {
    ScaffoldYard x = yard(2, 1, 1, 0, GATE, GATE);
    x.floor(0, 1);
    x.board(0, 1, 1, 1);
    // The one without foot has 1 + 3 / 2; standard 1 has 2 + 3 / 2 and half of that: 19 / 4; standard 3: 13 / 4.
    Due.is("24 all bear 1000", x.over(0, 0), 0);
    int[][] two = {{5, 0}, {4, 2}, {3, 2 + 8}, {2, 2 + 8}, {1, 1 + 2 + 8}, {0, 1 + 2 + 8}};
    for (int[] t : two) {
      x.table(2, 2, t[0]);
      Due.is("24 two lifts bear " + t[0], x.over(0, 0), t[1]);
    }
    x.table(2, 2, 1000000);
    int[][] one = {{3, 0}, {2, 4}, {0, 4}};
    for (int[] t : one) {
      x.table(2, 1, t[0]);
      Due.is("24 one lift bears " + t[0], x.over(0, 0), t[1]);
    }
    Due.is("24 what each has is not what it bears", x.over(0, 1), 0);
    x = yard(1, 1, 1, 0, GATE, GATE);
    x.table(2, 1, 0);
    Due.is("24 what has nothing bears it on nothing", x.over(0, 0), 1 + 2 + 8);
  }

  private static void withoutAFootItsOwnLoadAlone() {
    ScaffoldYard x = yard(2, 20, 50, 0, GATE, GATE, GATE, GATE);
    x.floor(0, 1);
    x.board(0, 2, 1, 1);
    // Standards 2, 3 and 4 have no foot; they have 20 and of boards of 101 a half each of 2 and 3.
    x.table(2, 2, 1000000);
    int[][] bears = {{71, 0}, {70, 4 + 8}, {20, 4 + 8}, {19, 4 + 8 + 16}, {0, 4 + 8 + 16}};
    for (int[] b : bears) {
      x.table(2, 1, b[0]);
      Due.is("24 one lift bears " + b[0], x.over(0, 0), b[1]);
    }
  }

  private static void overHasABitForEach() {
    ScaffoldYard x = yard(1, 1, 1, 0, 0, 0, 0, 0, 0, 0, 0, 0, 0);
    x.table(2, 1, 0);
    Due.is("24 all eleven", x.over(0, 0), 2047);
    x.table(2, 1, 1);
    Due.is("24 none", x.over(0, 0), 0);
    x.floor(0, 0);
    x.board(0, 9, 0, 0);
    Due.is("24 the last two", x.over(0, 0), 512 + 1024);
    x.board(0, 9, 0, -1);
    x.board(0, 0, 0, 0);
    Due.is("24 the first two", x.over(0, 0), 3);
  }

  private static void aTieIsOverAboveWhatItHolds() {
    ScaffoldYard x = yard(2, 1, 1, 0, NETTED);
    x.gust(0, 5);
    Due.is("24 no ties", x.over(0, 1), 0);
    x.tie(0, 2, 0, 1);
    x.tie(0, 2, 1, 1);
    x.tie(0, 0, 0, 1);
    x.table(2, 0, 5);
    Due.is("24 just what they hold", x.over(0, 1), 0);
    x.table(2, 0, 4);
    Due.is("24 one above", x.over(0, 1), 2);
    x.table(2, 0, 0);
    Due.is("24 one without wind is not above 0", x.over(0, 1), 2);
    x.gust(0, 0);
    Due.is("24 no wind", x.over(0, 1), 0);
    x.gust(0, 5);
    for (int place = 1; place < 7; place++) x.table(2, place, 1000);
    Due.is("24 ties are no standards", x.over(0, 0), 0);
    x.tie(0, 2, 1, 0);
    x.table(2, 0, 10);
    Due.is("24 all on one, just held", x.over(0, 1), 0);
    x.table(2, 0, 9);
    Due.is("24 all on one", x.over(0, 1), 1);
  }

  private static void lostWindIsOnNoTie() {
    ScaffoldYard x = yard(1, 1, 1, 0, NETTED);
    x.gust(0, 9);
    x.table(2, 0, 0);
    Due.is("22 lost", x.lost(0), 9);
    Due.is("24 no tie is over", x.over(0, 1), 0);
    x.tie(0, 0, 0, 1);
    Due.is("24 a tie is over", x.over(0, 1), 1);
  }

  private static String reckoned(ScaffoldYard x) {
    StringBuilder all = new StringBuilder();
    for (int what = 0; what < 8; what++) all.append(x.about(0, what)).append(' ');
    for (int s = 0; s < 6; s++) all.append(x.load(0, s)).append(' ').append(x.foot(0, s, 0)).append(' ').append(x.free(0, s)).append(' ');
    for (int s = 0; s < 18; s++) all.append(x.wind(0, s % 6, s / 6)).append(' ');
    all.append(x.lost(0)).append(' ').append(x.over(0, 0)).append(' ').append(x.over(0, 1)).append(' ').append(x.breaches(0));
    for (int kind = 0; kind < 6; kind++) all.append(' ').append(x.wants(0, kind, 1)).append(' ').append(x.lacks(kind, 2));
    return all.toString();
  }

  private static void thePlanIsReckonedUpOrNot() {
    ScaffoldYard x = yard(3, 2, 1, 0, GATE, GATE, NETTED, HUNG);
    for (int lift = 0; lift < 3; lift++) {
      x.floor(0, lift);
      x.board(0, 3, lift, lift);
      x.brace(0, lift, 1, 1);
      x.tie(0, 2 + lift, 1, 1);
    }
    x.gust(0, 3);
    x.rule(0, 1);
    x.rule(2, 1);
    x.table(2, 0, 5);
    x.table(2, 2, 9);
    String due = reckoned(x);
    for (int up = 0; up < 3; up++) {
      Due.is("31 some are put", x.go(0, 15, 1), up < 2 ? 15 : 11);
      Due.is("2 the plan, not what is up: " + reckoned(x), reckoned(x).equals(due) ? 1 : 0, 1);
    }
    Due.is("30 all are up", x.next(0, 2), NONE);
  }

  // ---- 3 RULES; promises 25 to 27

  private static void rulesHaveRanges() {
    ScaffoldYard x = new ScaffoldYard();
    int[][] ends = {{0, 0, 9}, {1, 1, 6}, {2, 0, 10}};
    int[] first = {0, 1, 0};
    for (int[] e : ends) {
      Due.is("25 at first", x.rule(e[0], e[2]), first[e[0]]);
      Due.is("25 the most", x.rule(e[0], e[1]), e[2]);
      Due.is("25 the least", x.rule(e[0], e[2]), e[1]);
    }
    Due.is("25 each has its own", x.rule(0, 1), 9);
    Due.is("25 each has its own", x.rule(1, 1), 6);
    Due.is("25 each has its own", x.rule(2, 1), 10);
  }

  private static void breachIs(ScaffoldYard x, int i, int rule, int lift, int place) {
    Due.is("27 rule of " + i, x.breach(0, i, 0), rule);
    Due.is("27 lift of " + i, x.breach(0, i, 1), lift);
    Due.is("27 place of " + i, x.breach(0, i, 2), place);
  }

  private static void noRuleIsBroken() {
    ScaffoldYard x = yard(3, 1, 1, 0, 0);
    for (int b = 1; b <= 6; b++) {
      x.rule(1, b);
      Due.is("26 A and C are 0, B is " + b, x.breaches(0), 0);
    }
    Due.is("27 none", x.breach(0, 0, 0), NONE);
    x.rule(0, 1);
    x.rule(0, 0);
    x.rule(2, 1);
    x.rule(2, 0);
    Due.is("26 0 again", x.breaches(0), 0);
  }

  private static void tiesOfStandardsSideBySide() {
    ScaffoldYard x = yard(1, 1, 1, 0, 0, 0);
    int[] due = {0, 3, 2, 1, 1, 1, 1, 1, 1, 1};
    for (int a = 0; a <= 9; a++) {
      x.rule(0, a);
      Due.is("26 four standards, A is " + a, x.breaches(0), due[a]);
    }
    breachIs(x, 0, 0, 0, 0);
    Due.is("27 one alone", x.breach(0, 1, 0), NONE);
    x.tie(0, 3, 0, 1);
    Due.is("26 all there are, are asked together", x.breaches(0), 0);
    x.rule(0, 3);
    Due.is("26 just as many as there are", x.breaches(0), 0);
    x.rule(0, 2);
    Due.is("26 the first three", x.breaches(0), 1);
    breachIs(x, 0, 0, 0, 0);
    x.rule(0, 1);
    Due.is("26 the first two, the next two", x.breaches(0), 2);
    breachIs(x, 1, 0, 0, 1);
    x.tie(0, 3, 0, 0);
    x.tie(0, 0, 0, 1);
    Due.is("26 not the first two", x.breaches(0), 2);
    breachIs(x, 0, 0, 0, 1);
    breachIs(x, 1, 0, 0, 2);
  }

  private static void tiesOfLiftsOneAboveTheOther() {
    ScaffoldYard x = yard(4, 1, 1, 0);
    x.rule(0, 1);
    int[] due = {0, 4, 3, 2, 1, 1, 1};
    for (int b = 1; b <= 6; b++) {
      x.rule(1, b);
      Due.is("26 four lifts, B is " + b, x.breaches(0), due[b]);
    }
    breachIs(x, 0, 0, 0, 0);
    x.tie(0, 1, 3, 1);
    Due.is("26 all there are, are asked together", x.breaches(0), 0);
    x.rule(1, 4);
    Due.is("26 just as many as there are", x.breaches(0), 0);
    x.rule(1, 3);
    Due.is("26 the lower three", x.breaches(0), 1);
    breachIs(x, 0, 0, 0, 0);
    x.rule(1, 2);
    Due.is("26 two and two", x.breaches(0), 2);
    breachIs(x, 1, 0, 1, 0);
    x.rule(1, 1);
    Due.is("26 each alone", x.breaches(0), 3);
    breachIs(x, 2, 0, 2, 0);
  }

  private static void bracesOfBaysSideBySide() {
    ScaffoldYard x = yard(2, 1, 1, 0, 0, 0);
    int[] due = {0, 6, 4, 2, 2, 2, 2, 2, 2, 2, 2};
    for (int c = 0; c <= 10; c++) {
      x.rule(2, c);
      Due.is("26 three bays, C is " + c, x.breaches(0), due[c]);
    }
    breachIs(x, 0, 1, 0, 0);
    breachIs(x, 1, 1, 1, 0);
    x.brace(0, 2, 1, 1);
    Due.is("26 all there are, are asked together", x.breaches(0), 1);
    x.rule(2, 3);
    Due.is("26 just as many as there are", x.breaches(0), 1);
    x.rule(2, 2);
    Due.is("26 two and two", x.breaches(0), 3);
    breachIs(x, 2, 1, 1, 0);
    x.rule(2, 1);
    Due.is("26 each alone", x.breaches(0), 5);
    breachIs(x, 4, 1, 1, 1);
  }

  private static void aGateAtLift0CountsAsBraced() {
    ScaffoldYard x = yard(2, 1, 1, 0, GATE, 0);
    x.rule(2, 1);
    Due.is("26 not at lift 1", x.breaches(0), 5);
    breachIs(x, 0, 1, 0, 0);
    breachIs(x, 1, 1, 0, 2);
    breachIs(x, 3, 1, 1, 1);
    x.rule(2, 2);
    Due.is("26 beside a gate", x.breaches(0), 2);
    breachIs(x, 0, 1, 1, 0);
  }

  private static void breachesStandInOrder() {
    ScaffoldYard x = yard(2, 1, 1, 0, 0);
    x.rule(0, 1);
    x.rule(2, 1);
    int[][] due = {{0, 0, 0}, {0, 0, 1}, {0, 1, 0}, {0, 1, 1}, {1, 0, 0}, {1, 0, 1}, {1, 1, 0}, {1, 1, 1}};
    Due.is("26 all", x.breaches(0), 8);
    for (int i = 0; i < 8; i++) breachIs(x, i, due[i][0], due[i][1], due[i][2]);
    Due.is("27 none behind", x.breach(0, 8, 2), NONE);
    Due.is("27 none far behind", x.breach(0, MOST, 1), NONE);
  }

  private static void theMostBreaches() {
    ScaffoldYard x = yard(6, 1, 1, 0, 0, 0, 0, 0, 0, 0, 0, 0, 0);
    x.rule(0, 1);
    x.rule(2, 1);
    Due.is("26 the most", x.breaches(0), 120);
    breachIs(x, 59, 0, 5, 9);
    breachIs(x, 60, 1, 0, 0);
    breachIs(x, 119, 1, 5, 9);
    Due.is("27 none behind", x.breach(0, 120, 0), NONE);
    x.rule(0, 9);
    Due.is("26 ten of eleven standards", x.breaches(0), 12 + 60);
    breachIs(x, 1, 0, 0, 1);
    x.rule(1, 6);
    x.rule(2, 10);
    Due.is("26 the fewest", x.breaches(0), 2 + 6);
  }

  // ---- 4 PIECES; promises 28 to 32

  /** Which numbers are pieces: a sign for each place, a row for each lift, of one kind. */
  private static void piecesAre(ScaffoldYard x, int kind, String... lifts) {
    for (int lift = 0; lift < 6; lift++) {
      for (int place = 0; place < 11; place++) {
        boolean is = lift < lifts.length && place < lifts[lift].length() && lifts[lift].charAt(place) == 'x';
        Due.is("32 piece " + kind + ", " + lift + ", " + place, x.isUp(0, 66 * kind + 11 * lift + place), is ? 0 : NONE);
      }
    }
  }

  private static Deed planned() {
    return x -> {
      x.frame(0, 2, 1, 1);
      for (int kind : new int[] {GATE, GATE, 0}) x.bay(0, kind, 1);
      x.floor(0, 1);
      x.board(0, 2, 1, 0);
      x.brace(0, 0, 0, 1);
      x.brace(0, 3, 1, 1);
      x.tie(0, 4, 0, 1);
      x.tie(0, 2, 1, 1);
    };
  }

  private static void numbersOfPieces() {
    String[][] kinds = {{"xx.xx", "xxxxx"}, {"x..x", "xxxx"}, {"x...", "...x"}, {"", "..x."}, {"....x", "..x.."}, {".xx."}};
    for (int kind = 0; kind < 6; kind++) {
      ScaffoldYard x = new ScaffoldYard();
      planned().on(x);
      piecesAre(x, kind, kinds[kind]);
      Due.is("32 below all", x.isUp(0, -1), NONE);
      Due.is("32 above all", x.isUp(0, 396), NONE);
    }
    int[] last = {TUBE + 65, LEDGER + 64, BRACE + 64, BOARDS + 64, TIE + 65};
    for (int piece : last) {
      Due.is("32 the last of its kind", full().isUp(0, piece), 0);
      if (piece % 11 == 9) Due.is("32 none behind it", full().isUp(0, piece + 1), NONE);
    }
    ScaffoldYard x = yard(6, 1, 1, 0, GATE, 0, 0, 0, 0, 0, 0, 0, GATE);
    Due.is("32 the first beam", x.isUp(0, BEAM + 1), 0);
    Due.is("32 the last beam", x.isUp(0, BEAM + 9), 0);
    Due.is("32 no beam above", x.isUp(0, BEAM + 11 + 1), NONE);
    Due.is("32 the last number", x.isUp(0, 395), NONE);
  }

  /** A piece can't be put as long as one that it needs is not up, though others are; then that one can't be taken. */
  private static void needs(int piece, int one, int... others) {
    ScaffoldYard x = new ScaffoldYard();
    planned().on(x);
    int up = 0;
    for (int other : others) Due.is("28 " + piece + ": ahead of it " + other, x.put(0, other), ++up);
    Due.is("28 " + piece + " needs " + one, x.put(0, piece), NO);
    Due.is("28 " + one + " is put", x.put(0, one), ++up);
    Due.is("29 " + one + " is not yet needed", x.take(0, one), --up);
    x.put(0, one);
    Due.is("28 " + piece + " has what it needs", x.put(0, piece), 2 + up);
    Due.is("29 " + one + " is needed", x.take(0, one), NO);
    Due.is("29 " + piece + " is not", x.take(0, piece), 1 + up);
    Due.is("29 " + one + " is needed no more", x.take(0, one), up);
  }

  private static void eachPieceNeeds() {
    needs(TUBE + 11, TUBE);
    needs(TUBE + 11 + 4, TUBE + 4, TUBE + 3);
    needs(TUBE + 11 + 2, BEAM + 1, TUBE + 1, TUBE + 3, BEAM + 2);
    needs(TUBE + 11 + 2, BEAM + 2, TUBE + 1, TUBE + 3, BEAM + 1);
    needs(LEDGER, TUBE, TUBE + 1);
    needs(LEDGER, TUBE + 1, TUBE);
    needs(LEDGER + 11 + 3, TUBE + 11 + 3, TUBE + 3, TUBE + 4, TUBE + 11 + 4, LEDGER + 3);
    needs(LEDGER + 11 + 3, TUBE + 11 + 4, TUBE + 3, TUBE + 4, TUBE + 11 + 3, LEDGER + 3);
    needs(LEDGER + 11 + 1, TUBE + 11 + 2, TUBE + 1, TUBE + 3, TUBE + 11 + 1, BEAM + 1, BEAM + 2);
    needs(BRACE, LEDGER, TUBE, TUBE + 1);
    needs(BRACE + 11 + 3, LEDGER + 11 + 3, TUBE + 3, TUBE + 4, LEDGER + 3, TUBE + 11 + 3, TUBE + 11 + 4);
    needs(BOARDS + 11 + 2, LEDGER + 11 + 2, TUBE + 1, TUBE + 3, BEAM + 1, BEAM + 2, TUBE + 11 + 2, TUBE + 11 + 3);
    needs(TIE + 4, TUBE + 4, TUBE + 3);
    needs(TIE + 11 + 2, TUBE + 11 + 2, TUBE + 1, TUBE + 3, BEAM + 1, BEAM + 2);
    for (int beam = BEAM + 1; beam <= BEAM + 2; beam++) {
      needs(beam, TUBE + 1, TUBE, TUBE + 3, TUBE + 4);
      needs(beam, TUBE + 3, TUBE, TUBE + 1, TUBE + 4);
    }
  }

  private static void whatAPieceDoesNotNeed() {
    ScaffoldYard x = new ScaffoldYard();
    planned().on(x);
    Due.is("28 a lowest tube needs nothing", x.put(0, TUBE + 4), 1);
    Due.is("28 nor the tubes beside", x.put(0, TUBE + 11 + 4), 2);
    Due.is("28 a tie needs its tube alone", x.put(0, TIE + 4), 3);
    x.put(0, TUBE + 3);
    x.put(0, TUBE + 11 + 3);
    Due.is("28 an upper ledger not the lower one", x.put(0, LEDGER + 11 + 3), 6);
    Due.is("28 a brace its ledger alone", x.put(0, BRACE + 11 + 3), 7);
    Due.is("29 the last put can be taken", x.take(0, BRACE + 11 + 3), 6);
    Due.is("29 a tie is needed by nothing", x.take(0, TIE + 4), 5);
    Due.is("29 a tube below is needed", x.take(0, TUBE + 4), NO);
  }

  private static void gatesFarFromTheirFeet() {
    ScaffoldYard x = yard(2, 1, 1, 0, GATE, GATE, GATE, GATE, GATE, GATE, GATE, GATE, GATE);
    x.put(0, TUBE + 1);
    for (int b = 1; b < 10; b++) Due.is("28 a beam needs the far foot", x.put(0, BEAM + b), NO);
    x.put(0, TUBE + 10);
    x.take(0, TUBE + 1);
    for (int b = 1; b < 10; b++) Due.is("28 a beam needs the near foot", x.put(0, BEAM + b), NO);
    x.put(0, TUBE + 1);
    for (int b = 1; b < 10; b++) Due.is("28 a beam", x.put(0, BEAM + b), 2 + b);
    for (int s = 2; s < 10; s++) Due.is("28 a tube on beams", x.put(0, TUBE + 11 + s), 10 + s);
    Due.is("29 all beams are needed", x.take(0, BEAM + 1) == NO && x.take(0, BEAM + 9) == NO ? 1 : 0, 1);
    x.take(0, TUBE + 11 + 2);
    Due.is("29 the first is not", x.take(0, BEAM + 1), 17);
    Due.is("29 the second is, by the next tube", x.take(0, BEAM + 2), NO);
    for (int s = 3; s < 10; s++) x.take(0, TUBE + 11 + s);
    for (int b = 2; b < 9; b++) x.take(0, BEAM + b);
    Due.is("29 a foot is needed by one beam", x.take(0, TUBE + 1), NO);
    x.take(0, BEAM + 9);
    Due.is("29 and then by none", x.take(0, TUBE + 1), 1);
  }

  private static void oneLiftWithGates() {
    ScaffoldYard x = yard(1, 1, 1, 0, GATE, GATE);
    Due.is("32 no tube without foot", x.isUp(0, TUBE + 2), NONE);
    Due.is("31 three tubes, a ledger, two beams", x.go(0, 400, 1), 6);
    Due.is("30 the last beam", x.next(0, 1), BEAM + 2);
    Due.is("35 a tag", x.tag(0, 0, 1), 0);
    x.take(0, BEAM + 1);
    Due.is("36 a beam is of lift 0", x.tagged(0, 0), NONE);
    Due.is("35 a beam is a piece", x.tag(0, 0, 1), NO);
  }

  private static void goTakesTheGreatestEachTime() {
    ScaffoldYard x = yard(2, 1, 1, 0, GATE, GATE);
    x.tie(0, 2, 1, 1);
    int[] down = {TIE + 13, LEDGER + 13, LEDGER + 12, LEDGER + 11, LEDGER, TUBE + 14, TUBE + 13, BEAM + 2, BEAM + 1, TUBE + 12, TUBE + 11, TUBE + 3, TUBE + 1, TUBE};
    int[] up = {TUBE, TUBE + 1, TUBE + 3, TUBE + 11, TUBE + 12, TUBE + 14, LEDGER, LEDGER + 11, BEAM + 1, BEAM + 2, TUBE + 13, LEDGER + 12, LEDGER + 13, TIE + 13};
    for (int n = 1; n <= 14; n++) {
      Due.is("31 put, " + n, x.go(0, n, 1), n);
      for (int k = 0; k < 14; k++) Due.is("31 put, " + n + ": " + up[k], x.isUp(0, up[k]), k < n ? 1 : 0);
      x.go(0, 400, 0);
    }
    x = yard(2, 1, 1, 0, GATE, GATE);
    x.tie(0, 2, 1, 1);
    for (int n = 1; n <= 14; n++) {
      x.go(0, 400, 1);
      Due.is("31 taken, " + n, x.go(0, n, 0), n);
      for (int k = 0; k < 14; k++) Due.is("31 taken, " + n + ": " + down[k], x.isUp(0, down[k]), k < n ? 0 : 1);
    }
    for (int k = 0; k < 14; k++) {
      Due.is("30 the least to be put", x.next(0, 0), up[k]);
      Due.is("28 it is put", x.put(0, up[k]), k + 1);
    }
    for (int k = 0; k < 14; k++) {
      Due.is("30 the greatest to be taken", x.next(0, 1), down[k]);
      Due.is("29 it is taken", x.take(0, down[k]), 13 - k);
    }
  }

  private static void nextIsNoneAtTheEnds() {
    ScaffoldYard x = yard(1, 1, 1, 0);
    Due.is("30 nothing is up: the least", x.next(0, 0), TUBE);
    Due.is("30 nothing is up: none to take", x.next(0, 1), NONE);
    Due.is("30 nothing is up: the least", x.next(0, 2), TUBE);
    x.put(0, TUBE + 1);
    Due.is("30 the least that can be put", x.next(0, 0), TUBE);
    Due.is("30 the greatest that can be taken", x.next(0, 1), TUBE + 1);
    x.put(0, TUBE);
    Due.is("30 the ledger", x.next(0, 0), LEDGER);
    Due.is("30 the greatest that can be taken", x.next(0, 1), TUBE + 1);
    Due.is("30 the least that is not up", x.next(0, 2), LEDGER);
    x.put(0, LEDGER);
    Due.is("30 all is up: none to put", x.next(0, 0), NONE);
    Due.is("30 all is up: the ledger alone", x.next(0, 1), LEDGER);
    Due.is("30 all is up: none", x.next(0, 2), NONE);
    x.brace(0, 0, 0, 1);
    Due.is("30 the plan has more", x.next(0, 2), BRACE);
    x = yard(2, 1, 1, 0, GATE, GATE);
    x.put(0, TUBE);
    x.put(0, TUBE + 11);
    x.put(0, TUBE + 1);
    x.put(0, TUBE + 12);
    x.put(0, TUBE + 3);
    x.put(0, TUBE + 14);
    Due.is("30 that can't be put is not up all the same", x.next(0, 2), TUBE + 13);
    Due.is("30 the least that can", x.next(0, 0), LEDGER);
  }

  private static void goAtMostSoManyTimes() {
    ScaffoldYard x = yard(1, 1, 1, 0);
    Due.is("31 none to take", x.go(0, 400, 0), 0);
    Due.is("31 one", x.go(0, 1, 1), 1);
    Due.is("31 the least", x.isUp(0, TUBE), 1);
    Due.is("31 just as many as there are", x.go(0, 2, 1), 2);
    Due.is("31 none to put", x.go(0, 400, 1), 0);
    Due.is("31 one", x.go(0, 1, 0), 1);
    Due.is("31 the greatest", x.isUp(0, LEDGER), 0);
    Due.is("31 more than there are", x.go(0, 3, 0), 2);
    Due.is("31 all", x.count(1), 0);
    x.frame(1, 1, 1, 1);
    Due.is("31 another frame", x.go(1, 400, 1), 3);
    Due.is("31 of that frame alone", x.isUp(0, TUBE), 0);
  }

  private static void goEndsTags() {
    ScaffoldYard x = yard(2, 1, 1, 0);
    x.go(0, 400, 1);
    x.tag(0, 0, 1);
    x.tag(0, 1, 1);
    x.go(0, 1, 1);
    Due.is("36 none was put", x.count(2), 2);
    x.go(0, 1, 0);
    Due.is("36 one of lift 1 was taken", x.tagged(0, 1), NONE);
    Due.is("36 none of lift 0", x.tagged(0, 0), 0);
    x.go(0, 1, 0);
    Due.is("36 one of lift 0 was taken", x.tagged(0, 0), NONE);
  }

  // ---- 5 TODAY; promises 33 to 39

  private static void daysGoBy() {
    ScaffoldYard x = new ScaffoldYard();
    Due.is("33 at first", x.day(0), 0);
    Due.is("33 one", x.day(1), 1);
    Due.is("33 the most", x.day(1000), 1001);
    Due.is("33 too many", x.day(1001), BAD);
    Due.is("33 too few", x.day(-1), BAD);
    Due.is("44 today", x.count(4), 1001);
    x = new ScaffoldYard();
    for (int k = 1; k <= 511; k++) x.day(1000);
    Due.is("33 the 512th call", x.day(1000), 512000);
  }

  private static void theLastDayThatIs() {
    // More calls than an object is used for: only so the last day can be reached at all.
    ScaffoldYard x = new ScaffoldYard();
    for (int k = 0; k < 999; k++) x.day(1000);
    x.day(999);
    Due.is("33 one above", x.day(2), BAD);
    Due.is("33 far above", x.day(1000), BAD);
    Due.is("33 none goes by", x.day(0), 999999);
    Due.is("33 the last day", x.day(1), 1000000);
    Due.is("33 none behind it", x.day(1), BAD);
    Due.is("33 none goes by", x.day(0), 1000000);
  }

  private static ScaffoldYard tagged(int lifts) {
    ScaffoldYard x = yard(lifts, 1, 1, 0);
    x.go(0, 400, 1);
    for (int lift = 0; lift < lifts; lift++) x.tag(0, lift, lift + 1);
    return x;
  }

  private static void aTagEndsBehindItsDay() {
    ScaffoldYard x = tagged(3);
    for (int day = 0; day < 4; day++) {
      for (int lift = 0; lift < 3; lift++) Due.is("36 day " + day + ", lift " + lift, x.tagged(0, lift), lift < day ? NONE : lift);
      Due.is("44 tags", x.count(2), 3 - day);
      x.day(0);
      Due.is("33 no day goes by", x.count(2), 3 - day);
      x.day(1);
    }
    x = yard(1, 1, 1, 0);
    x.go(0, 400, 1);
    x.day(1000);
    Due.is("35 one day is today", x.tag(0, 0, 1), 1000);
    Due.is("35 the most days", x.tag(0, 0, 30), 1029);
    x.day(29);
    Due.is("36 the last of them", x.tagged(0, 0), 1029);
    x.day(1);
    Due.is("36 behind it", x.tagged(0, 0), NONE);
    Due.is("35 again", x.tag(0, 0, 2), 1031);
    Due.is("35 for less", x.tag(0, 0, 1), 1030);
    Due.is("36 for less", x.tagged(0, 0), 1030);
    Due.is("44 it is one tag", x.count(2), 1);
    x.day(1000);
    Due.is("36 far behind", x.tagged(0, 0), NONE);
  }

  private static void tagsOfAllFramesEndBehindTheirDays() {
    ScaffoldYard x = new ScaffoldYard();
    for (int f = 0; f < 3; f++) {
      x.frame(f, 6, 1, 1);
      x.go(f, 400, 1);
      for (int lift = 0; lift < 6; lift++) x.tag(f, lift, 6 * f + lift + 1);
    }
    for (int day = 0; day < 19; day++) {
      for (int tag = 0; tag < 18; tag++) Due.is("36 day " + day + ", tag " + tag, x.tagged(tag / 6, tag % 6), tag < day ? NONE : tag);
      x.day(1);
    }
  }

  private static void aTagEndsByPiecesOfItsLiftAndBelow() {
    for (int lift = 0; lift < 3; lift++) {
      ScaffoldYard x = yard(3, 1, 1, 0);
      for (int l = 0; l < 3; l++) x.tie(0, 0, l, 1);
      x.go(0, 400, 1);
      for (int l = 0; l < 3; l++) x.tag(0, l, 9);
      x.take(0, TIE + 11 * lift);
      for (int l = 0; l < 3; l++) Due.is("36 taken of " + lift + ", lift " + l, x.tagged(0, l), l < lift ? 8 : NONE);
      x.put(0, TIE + 11 * lift);
      for (int l = 0; l < 3; l++) x.tag(0, l, 9);
      x.brace(0, 0, lift, 1);
      Due.is("36 the plan ends none", x.count(2), 3);
      Due.is("36 a refused one ends none", x.put(0, TIE), NO);
      Due.is("36 a refused one ends none", x.take(0, TUBE), NO);
      Due.is("36 a refused one ends none", x.count(2), 3);
      x.put(0, BRACE + 11 * lift);
      for (int l = 0; l < 3; l++) Due.is("36 put of " + lift + ", lift " + l, x.tagged(0, l), l < lift ? 8 : NONE);
    }
    ScaffoldYard x = tagged(1);
    x.frame(1, 1, 1, 1);
    x.go(1, 400, 1);
    Due.is("36 a piece of another frame ends none", x.tagged(0, 0), 0);
  }

  private static void aStormEndsAllTags() {
    ScaffoldYard x = tagged(6);
    x.frame(2, 1, 1, 1);
    x.go(2, 400, 1);
    x.tag(2, 0, 1);
    Due.is("34 of all frames", x.storm(), 7);
    Due.is("44 none", x.count(2), 0);
    Due.is("34 none", x.storm(), 0);
    Due.is("34 no frames", new ScaffoldYard().storm(), 0);
    x.tag(0, 0, 1);
    x.day(1);
    Due.is("34 one that ended by itself is no more counted", x.storm(), 0);
  }

  private static void aTagNeedsItsLiftAndThoseBelow() {
    ScaffoldYard x = yard(3, 1, 1, 0);
    x.tie(0, 0, 1, 1);
    x.go(0, 400, 1);
    x.take(0, TIE + 11);
    Due.is("35 a piece above is not up", x.tag(0, 0, 1), 0);
    Due.is("35 a piece of it is not up", x.tag(0, 1, 1), NO);
    Due.is("35 a piece below is not up", x.tag(0, 2, 1), NO);
    x.put(0, TIE + 11);
    Due.is("35 all are up", x.tag(0, 2, 1), 0);
    Due.is("35 all are up", x.tag(0, 1, 1), 0);
    x.rule(0, 1);
    // Lift 1 has a tie; lifts 0 and 2 are breaches then.
    Due.is("35 a breach of it", x.tag(0, 0, 1), NO);
    x.tie(0, 1, 0, 1);
    x.go(0, 400, 1);
    Due.is("35 a breach above", x.tag(0, 0, 1), 0);
    Due.is("35 a breach above", x.tag(0, 1, 1), 0);
    Due.is("35 a breach of it", x.tag(0, 2, 1), NO);
    x.rule(1, 2);
    Due.is("35 no breach", x.tag(0, 2, 1), 0);
    x.rule(0, 0);
    x.rule(2, 1);
    for (int lift = 0; lift < 3; lift += 2) x.brace(0, 0, lift, 1);
    x.go(0, 400, 1);
    Due.is("35 a breach of braces above", x.tag(0, 0, 1), 0);
    Due.is("35 a breach of braces", x.tag(0, 1, 1), NO);
    Due.is("35 a breach of braces below", x.tag(0, 2, 1), NO);
  }

  private static void aTagNeedsThatNoStandardIsOver() {
    ScaffoldYard x = yard(2, 1, 1, 0, 0);
    x.floor(0, 1);
    x.board(0, 1, 1, 0);
    x.go(0, 400, 1);
    x.table(2, 2, 3);
    Due.is("35 just what they bear", x.tag(0, 0, 1), 0);
    x.table(2, 2, 2);
    Due.is("35 two of three are over", x.tag(0, 0, 1), NO);
    Due.is("36 the tag that is there stays", x.tagged(0, 0), 0);
    x.table(2, 2, 1000);
    x.table(2, 0, 0);
    x.gust(0, 20);
    Due.is("35 what a tie holds is no matter", x.tag(0, 1, 1), 0);
  }

  private static void peopleComeAndGo() {
    ScaffoldYard x = tagged(1);
    for (int person = 0; person < 10; person++) {
      Due.is("38 away at first", x.leave(person), NO);
      Due.is("37 how many are on it", x.enter(person, 0, 0), person + 1);
      Due.is("37 not away", x.enter(person, 0, 0), NO);
      Due.is("44 not away", x.count(3), person + 1);
    }
    Due.is("39 none", x.stranded(), 0);
    x.storm();
    Due.is("39 all ten", x.stranded(), 1023);
    Due.is("44 they stay", x.count(3), 10);
    for (int person = 9; person >= 0; person--) {
      Due.is("38 where they were", x.leave(person), 0);
      Due.is("39 the others", x.stranded(), (1 << person) - 1);
    }
    Due.is("44 all away", x.count(3), 0);
    Due.is("37 not tagged", x.enter(0, 0, 0), NO);
  }

  private static void peopleAreOnLiftsOfFrames() {
    ScaffoldYard x = tagged(6);
    x.frame(2, 6, 1, 1);
    x.go(2, 400, 1);
    for (int lift = 0; lift < 6; lift++) x.tag(2, lift, 1);
    Due.is("37 the first of all", x.enter(0, 0, 0), 1);
    Due.is("37 the top lift", x.enter(1, 0, 5), 1);
    Due.is("37 another frame", x.enter(2, 2, 0), 1);
    Due.is("37 the last of all", x.enter(9, 2, 5), 1);
    Due.is("37 a second there", x.enter(3, 2, 5), 2);
    x.take(2, LEDGER + 55);
    Due.is("39 those of that lift", x.stranded(), 512 + 8);
    x.go(2, 400, 0);
    Due.is("39 and of those below, as nothing is up", x.stranded(), 512 + 8 + 4);
    x.day(1);
    Due.is("39 lift 0 too; lift 5 is tagged still", x.stranded(), 512 + 8 + 4 + 1);
    Due.is("38", x.leave(0), 0);
    Due.is("38", x.leave(1), 5);
    Due.is("38", x.leave(2), 20);
    Due.is("38", x.leave(9), 25);
    Due.is("44 one is left", x.count(3), 1);
  }

  private static void strandedByTheTagOfTheirOwnLift() {
    for (int f = 0; f < 3; f++) {
      for (int lift = 0; lift < 6; lift++) {
        ScaffoldYard x = new ScaffoldYard();
        for (int g = 0; g < 3; g++) {
          x.frame(g, 6, 1, 1);
          x.go(g, 400, 1);
        }
        x.tag(f, lift, 1);
        Due.is("37 on frame " + f + ", lift " + lift, x.enter(7, f, lift), 1);
        Due.is("39 that tag alone, frame " + f + ", lift " + lift, x.stranded(), 0);
        x.storm();
        for (int g = 0; g < 3; g++) {
          for (int other = 0; other < 6; other++) if (g != f || other != lift) x.tag(g, other, 1);
        }
        Due.is("39 all tags but that, frame " + f + ", lift " + lift, x.stranded(), 128);
        Due.is("38 on frame " + f + ", lift " + lift, x.leave(7), 10 * f + lift);
      }
    }
  }

  private static void aPersonMayEnterUpToTheLastDay() {
    ScaffoldYard x = yard(2, 1, 1, 0);
    x.go(0, 400, 1);
    x.tag(0, 0, 2);
    Due.is("37 another lift is not tagged", x.enter(0, 0, 1), NO);
    x.day(1);
    Due.is("37 the last day", x.enter(0, 0, 0), 1);
    Due.is("39 the last day", x.stranded(), 0);
    x.day(1);
    Due.is("37 behind it", x.enter(1, 0, 0), NO);
    Due.is("39 behind it", x.stranded(), 1);
    Due.is("38 they can go", x.leave(0), 0);
    x.tag(0, 0, 1);
    Due.is("37 who has left can come again", x.enter(0, 0, 0), 1);
  }

  // ---- 6 STOCK; promises 40 to 43

  private static void stockHasRanges() {
    ScaffoldYard x = new ScaffoldYard();
    for (int kind = 0; kind < 6; kind++) {
      for (int width = 1; width <= 100; width += 99) {
        Due.is("40 at first", x.stock(kind, width, 100000), 0);
        Due.is("40 the most", x.stock(kind, width, 0), 100000);
        Due.is("40 the least", x.stock(kind, width, 10 * kind + width % 10), 0);
      }
    }
    for (int kind = 0; kind < 6; kind++) {
      for (int width = 1; width <= 100; width += 99) Due.is("40 each has its own", x.stock(kind, width, 0), 10 * kind + width % 10);
    }
  }

  private static void wantsByWidths() {
    ScaffoldYard x = new ScaffoldYard();
    x.frame(0, 6, 20, 100);
    x.bay(0, GATE, 1);
    x.bay(0, GATE, 100);
    x.floor(0, 5);
    x.board(0, 0, 5, 0);
    x.board(0, 1, 5, 0);
    x.brace(0, 2, 5, 1);
    for (int lift = 1; lift < 6; lift++) x.tie(0, 2, lift, 1);
    int[][] due = {{0, 20, 23}, {0, 1, 0}, {0, 100, 0}, {1, 100, 11}, {1, 1, 5}, {1, 20, 0}, {2, 100, 1}, {2, 1, 0}, {3, 100, 1}, {3, 1, 1},
      {4, 1, 5}, {4, 20, 0}, {4, 100, 0}, {5, 100, 1}, {5, 1, 1}, {5, 2, 0}};
    for (int[] d : due) {
      Due.is("41 kind " + d[0] + ", width " + d[1], x.wants(0, d[0], d[1]), d[2]);
      Due.is("42 kind " + d[0] + ", width " + d[1], x.lacks(d[0], d[1]), d[2]);
    }
    x.go(0, 400, 1);
    for (int[] d : due) Due.is("41 up, kind " + d[0] + ", width " + d[1], x.wants(0, d[0], d[1]), d[2]);
  }

  private static void lacksOfAllFrames() {
    ScaffoldYard x = new ScaffoldYard();
    Due.is("42 no frames", x.lacks(0, 1), 0);
    x.stock(0, 1, 5);
    Due.is("42 no frames, some stock", x.lacks(0, 1), 0);
    for (int f = 0; f < 3; f++) x.frame(f, 1, 1, 1);
    Due.is("42 one too few", x.lacks(0, 1), 1);
    x.stock(0, 1, 6);
    Due.is("42 just enough", x.lacks(0, 1), 0);
    x.stock(0, 1, 7);
    Due.is("42 one too many", x.lacks(0, 1), 0);
    x.stock(0, 1, 100000);
    Due.is("42 far too many", x.lacks(0, 1), 0);
    x.stock(0, 1, 0);
    Due.is("42 no stock", x.lacks(0, 1), 6);
    Due.is("42 stock of another kind", x.stock(1, 1, 9) + x.lacks(0, 1), 6);
    Due.is("42 stock of another width", x.stock(0, 2, 9) + x.lacks(0, 1), 6);
  }

  /** Frames 0 and 1 with bays told by letters: a to e is a kind, and then a digit, the width. */
  private static ScaffoldYard moving(String from, String to) {
    ScaffoldYard x = new ScaffoldYard();
    String[] both = {from, to};
    for (int f = 0; f < 2; f++) {
      for (int k = 0; k < both[f].length(); k += 2) {
        int kind = both[f].charAt(k) - 'a', width = both[f].charAt(k + 1) - '0';
        if (k == 0) x.frame(f, 1 + f, 1 + f, width); else x.bay(f, kind, width);
      }
    }
    return x;
  }

  private static void staysAre(String from, String to, int... bays) {
    ScaffoldYard x = moving(from, to);
    Due.is("43 " + from + " to " + to + ", many", x.stays(0, 1, -1), bays.length);
    for (int i = 0; i < bays.length; i++) Due.is("43 " + from + " to " + to + ", " + i, x.stays(0, 1, i), bays[i]);
    Due.is("43 " + from + " to " + to + ", behind", x.stays(0, 1, bays.length), NONE);
    Due.is("43 " + from + " to " + to + ", far behind", x.stays(0, 1, MOST), NONE);
  }

  private static void baysThatStay() {
    staysAre("a1", "a1", 0);
    staysAre("a1", "a2");
    staysAre("a1b1", "a2c1");
    staysAre("a1c1", "a2e1");
    staysAre("a1e2", "a3e2", 1);
    staysAre("a1a2a3", "a3a2a1", 0);
    staysAre("a1a2a3a1", "a1a2a3a1", 0, 1, 2, 3);
    staysAre("a1a2a3", "a2a3a1", 1, 2);
    staysAre("a1a1a1", "a1", 0);
    staysAre("a1", "a1a1a1", 0);
    staysAre("a2a1a2a1", "a1a2", 1, 2);
    staysAre("a1a2a1a2", "a2a1", 1, 2);
    staysAre("a1a2a3a4", "a3a4a1a2", 0, 1);
    staysAre("a5a1a2a3a4", "a1a2a3a4a5", 1, 2, 3, 4);
    staysAre("a1b2b2c3c3d4d4e5e5e6", "a1b2b2c3c3d4d4e5e5e6", 0, 1, 2, 3, 4, 5, 6, 7, 8, 9);
    staysAre("a1b2b2c3c3d4d4e5e5e6", "a9e6", 9);
    ScaffoldYard x = moving("a1b2", "a1");
    Due.is("43 to itself", x.stays(0, 0, -1), 2);
    Due.is("43 to itself", x.stays(0, 0, 1), 1);
    x.go(0, 400, 1);
    Due.is("43 up or not", x.stays(0, 1, -1), 1);
  }

  // ---- promise 44

  private static void counts() {
    ScaffoldYard x = new ScaffoldYard();
    for (int what = 0; what < 6; what++) Due.is("44 at first", x.count(what), 0);
    for (int f = 0; f < 3; f++) {
      x.frame(f, 6, 1, 1);
      Due.is("44 frames", x.count(0), f + 1);
      x.go(f, 400, 1);
      Due.is("44 up in all", x.count(1), 18 * (f + 1));
      for (int lift = 0; lift < 6; lift++) x.tag(f, lift, 1);
      Due.is("44 tags", x.count(2), 6 * (f + 1));
    }
    Due.is("44 a frame anew is no frame more", x.go(2, 400, 0) + x.frame(2, 1, 1, 1), 18);
    Due.is("44 frames", x.count(0), 3);
    Due.is("44 its tags ended", x.count(2), 12);
  }

  public static void main(String[] args) {
    anObjectIsUsedFor512Calls(); objectsShareNothing();
    tablesHaveSixPlacesAndSeven(); aFitIsNotAboveTheLength(); aFitIsNotBelowLengthLessGap(); aFitHasAtLeastOneBay();
    aFitIsOfFewestThenGreatestThenFirst(); theLongestFits(); aJoinIsAtLeastTheLength(); aJoinHasOneToTwentyTubes();
    aLapMayEatATube(); aJoinIsOfFewestThenLeastThenFirst(); oneAnswerDoesNotHangOnAnother();
    framesHaveRanges(); aNewFrameHasNothingOfTheOld(); aNewFrameNeedsTheOldOneDownAndEmpty(); someoneOnALiftHoldsThatFrameAlone(); aFrameHasOneToTenBays();
    aStandardBetweenGatesHasNoFoot(); aTieGoesWithTheFoot(); aDropTakesTheLastBayAndStandard(); rowsAreMissingAtFirst();
    aFloorThatIsThereKeepsItsBoards(); aStripTakesAllBoardsOfItsLift(); aStripIsRefusedWhileOneOfItsBoardsIsUp();
    boardsHaveAClassOrAreNone(); bracesAndTiesAreOrAreNot(); windIsOfEachFrame(); kindsOfBays(); theFullPlan();
    theLatestFiveAreKept(); changesComeAndGo(); eachKindOfChangeIsTakenBack(); changesOfAllFramesAreKeptTogether();
    noneIsKeptBehindFrameBayDrop(); otherCallsAreNoChanges(); undoWaitsForPiecesThatAreUp(); undoThatOnlyBringsBackIsNotRefused();
    whatAltersNothingIsAChangeAllTheSame(); piecesOfAnotherFrameAreNoMatter();
    boardsWeigh(); boardsOfAllLiftsCount(); aStandardWeighsItsHeight(); fractionsAreInLowestTerms(); manyGatesSideBySide(); theGreatestFraction();
    windPressesNettedBaysAtEachLift(); windGoesToTheNearestTie(); theFirstTieAndTheLastHoldWind();
    freeLifts(); eachFreeHasItsPlace(); overIsAbove(); withoutAFootItsOwnLoadAlone(); overHasABitForEach(); aTieIsOverAboveWhatItHolds();
    lostWindIsOnNoTie(); thePlanIsReckonedUpOrNot();
    rulesHaveRanges(); noRuleIsBroken(); tiesOfStandardsSideBySide(); tiesOfLiftsOneAboveTheOther(); bracesOfBaysSideBySide();
    aGateAtLift0CountsAsBraced(); breachesStandInOrder(); theMostBreaches();
    numbersOfPieces(); eachPieceNeeds(); whatAPieceDoesNotNeed(); gatesFarFromTheirFeet(); oneLiftWithGates();
    goTakesTheGreatestEachTime(); nextIsNoneAtTheEnds(); goAtMostSoManyTimes(); goEndsTags();
    daysGoBy(); theLastDayThatIs(); aTagEndsBehindItsDay(); tagsOfAllFramesEndBehindTheirDays(); aTagEndsByPiecesOfItsLiftAndBelow(); aStormEndsAllTags();
    aTagNeedsItsLiftAndThoseBelow(); aTagNeedsThatNoStandardIsOver(); peopleComeAndGo(); peopleAreOnLiftsOfFrames(); strandedByTheTagOfTheirOwnLift(); aPersonMayEnterUpToTheLastDay();
    stockHasRanges(); wantsByWidths(); lacksOfAllFrames(); baysThatStay(); counts();
    Due.end();
  }
}
