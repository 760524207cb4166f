import java.util.ArrayList;
import java.util.Arrays;
import java.util.HashMap;
import java.util.List;
import java.util.Map;

/**
 * The refusals of one call, in the order in which the document names them. Starting from a call
 * that is not refused, check() brings about each of them by itself and all that can meet: the
 * answer must be the one that stands first, and nothing may have changed.
 */
final class Refusals {
  private static final int LEAST = Integer.MIN_VALUE, MOST = Integer.MAX_VALUE;

  interface Call {
    long on(ScaffoldYard x, int[] args);
  }

  /** Either some arguments are others, or something is done ahead of the call. */
  private static final class Refusal {
    long answer;
    String why;
    int[] places = {};
    int[][] values = {{}};
    int[][] allowed = {};
    int rank;
    Deed ahead = x -> { };
  }

  private final String name;
  private final Deed made;
  private final Call call;
  private final int[] good;
  private final List<Refusal> all = new ArrayList<>();
  private final Map<Integer, View> views = new HashMap<>();

  Refusals(String name, Deed made, Call call, int... good) {
    this.name = name;
    this.made = made;
    this.call = call;
    this.good = good;
  }

  /** An argument has a range: just outside of it, and far from it, it is refused; at its ends it is not. */
  Refusals outside(long answer, String why, int place, int least, int most) {
    when(answer, why, place, least - 1, most + 1, LEAST, MOST);
    all.get(all.size() - 1).allowed = new int[][] {{least}, {most}};
    return this;
  }

  /** An argument has a least value, and no greatest. */
  Refusals below(long answer, String why, int place, int least) {
    when(answer, why, place, least - 1, LEAST);
    all.get(all.size() - 1).allowed = new int[][] {{least}, {MOST}};
    return this;
  }

  /** The call is refused if one argument has one of these values. */
  Refusals when(long answer, String why, int place, int... values) {
    int[][] each = new int[values.length][];
    for (int k = 0; k < values.length; k++) each[k] = new int[] {values[k]};
    return whenAll(answer, why, new int[] {place}, each);
  }

  /** The call is refused if several arguments have, together, one of these rows of values. */
  Refusals whenAll(long answer, String why, int[] places, int[]... values) {
    Refusal one = new Refusal();
    one.answer = answer;
    one.why = why;
    one.places = places;
    one.values = values;
    all.add(one);
    return this;
  }

  /** The call is refused behind a deed; of several deeds that of the least rank is done first. */
  Refusals behind(long answer, String why, int rank, Deed ahead) {
    Refusal one = new Refusal();
    one.answer = answer;
    one.why = why;
    one.rank = rank;
    one.ahead = ahead;
    all.add(one);
    return this;
  }

  /** Where nothing is wrong the call answers this. */
  void check(long due) {
    Due.is(name + ": nothing is wrong", asked(0, good), due);
    for (int k = 0; k < all.size(); k++) single(k);
    for (int some = 1; some < 1 << all.size(); some++) {
      if (Integer.bitCount(some) > 1) together(some);
    }
  }

  private void single(int k) {
    Refusal one = all.get(k);
    for (int[] values : one.values) {
      refused(1 << k, with(good, one, values), one);
    }
    for (int[] values : one.allowed) {
      int[] args = with(good, one, values);
      boolean so = asked(0, args) == one.answer;
      Due.is(name + Arrays.toString(args) + " refused by " + one.why, so ? 1 : 0, 0);
    }
  }

  private void together(int some) {
    int[] args = good;
    int placesSet = 0;
    Refusal first = null;
    for (int k = 0; k < all.size(); k++) {
      if ((some >> k & 1) == 0) continue;
      Refusal one = all.get(k);
      for (int place : one.places) {
        // One argument can't be wrong in two ways.
        if ((placesSet >> place & 1) == 1) return;
        placesSet |= 1 << place;
      }
      args = with(args, one, one.values[(some + k) % one.values.length]);
      if (first == null) first = one;
    }
    refused(some, args, first);
  }

  private static int[] with(int[] args, Refusal one, int[] values) {
    int[] others = args.clone();
    for (int k = 0; k < one.places.length; k++) others[one.places[k]] = values[k];
    return others;
  }

  private Deed ahead(int some) {
    List<Refusal> done = new ArrayList<>();
    for (int k = 0; k < all.size(); k++) if ((some >> k & 1) == 1) done.add(all.get(k));
    done.sort((a, b) -> a.rank - b.rank);
    Deed deed = made;
    for (Refusal one : done) deed = deed.then(one.ahead);
    return deed;
  }

  /** Arguments alter nothing ahead of the call, so that only deeds tell views apart. */
  private int deedsOf(int some) {
    int deeds = 0;
    for (int k = 0; k < all.size(); k++) if (all.get(k).places.length == 0) deeds |= some & 1 << k;
    return deeds;
  }

  private long asked(int some, int[] args) {
    ScaffoldYard x = new ScaffoldYard();
    ahead(some).on(x);
    return call.on(x, args);
  }

  private void refused(int some, int[] args, Refusal first) {
    String told = name + Arrays.toString(args) + " refused by " + first.why + " of " + Integer.toBinaryString(some);
    Due.is(told, asked(some, args), first.answer);
    Deed before = ahead(some);
    View was = views.computeIfAbsent(deedsOf(some), any -> View.of(before));
    String other = View.of(before.then(x -> call.on(x, args))).otherThan(was);
    if (other != null) System.out.println(told + ": " + other);
    Due.is(told + " changes nothing", other == null ? 0 : 1, 0);
  }
}
