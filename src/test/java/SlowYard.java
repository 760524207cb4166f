import java.math.BigInteger;
import java.util.ArrayDeque;
import java.util.ArrayList;
import java.util.Deque;
import java.util.HashMap;
import java.util.List;
import java.util.Map;
import java.util.TreeMap;
import java.util.TreeSet;

/**
 * The document told a second time, as slowly and plainly as can be, to hold the
 * class against: rows are found by trying all, undo copies whole plans, needs
 * are listed anew for each call. It shares no code with the class.
 */
final class SlowYard {
  static final int BAD = -1000000001, NO = -1000000002, FULL = -1000000003, NOTHING = -1000000011, INDEX = -1000000013, NONE = -1000000005;

  static final class Plan {
    final TreeSet<Integer> floors = new TreeSet<>();
    final TreeMap<List<Integer>, Integer> boards = new TreeMap<>(SlowYard::compareLists);
    final TreeSet<List<Integer>> braces = new TreeSet<>(SlowYard::compareLists);
    final TreeSet<List<Integer>> ties = new TreeSet<>(SlowYard::compareLists);
    int wind = 0;

    Plan copy() {
      Plan other = new Plan();
      other.floors.addAll(floors);
      other.boards.putAll(boards);
      other.braces.addAll(braces);
      other.ties.addAll(ties);
      other.wind = wind;
      return other;
    }
  }

  static final class Scaffold {
    int lifts, height;
    final List<int[]> bays = new ArrayList<>();
    Plan plan = new Plan();
    final TreeSet<Integer> up = new TreeSet<>();
    final Map<Integer, Integer> tags = new HashMap<>();

    int kind(int bay) { return bays.get(bay)[0]; }
    int width(int bay) { return bays.get(bay)[1]; }
    boolean gate(int bay) { return bay >= 0 && bay < bays.size() && kind(bay) == 1; }
    boolean footed(int s) { return !gate(s - 1) || !gate(s); }
  }

  static int compareLists(List<Integer> a, List<Integer> b) {
    for (int i = 0; i < a.size() && i < b.size(); i++) {
      if (!a.get(i).equals(b.get(i))) return a.get(i) - b.get(i);
    }
    return a.size() - b.size();
  }

  private final int[][] tables = {new int[6], new int[6], {1000, 1000, 1000, 1000, 1000, 1000, 1000}};
  private final Scaffold[] frames = new Scaffold[3];
  private final int[] rules = {0, 1, 0};
  private final Map<Integer, int[]> people = new TreeMap<>();
  private final Map<List<Integer>, Integer> stocks = new HashMap<>();
  private final Deque<Plan[]> kept = new ArrayDeque<>();
  private int today = 0;

  private static boolean in(int v, int a, int b) { return a <= v && v <= b; }
  private static boolean isFrame(int f) { return in(f, 0, 2); }

  int table(int table, int place, int v) {
    if (!in(table, 0, 2) || !in(place, 0, table == 2 ? 6 : 5) || !in(v, 0, table == 2 ? 1000000 : 100)) return BAD;
    int was = tables[table][place];
    tables[table][place] = v;
    return was;
  }

  private List<Integer> best;
  private boolean bestIsGreatest;

  private static int sum(List<Integer> row) {
    int sum = 0;
    for (int v : row) sum += v;
    return sum;
  }

  private void offer(List<Integer> row) {
    if (best != null) {
      int way = bestIsGreatest ? sum(row) - sum(best) : sum(best) - sum(row);
      if (way < 0 || way == 0 && compareLists(row, best) <= 0) return;
    }
    best = new ArrayList<>(row);
  }

  /** All rows of n sizes in falling order with a sum of least to most. */
  private void tryAll(TreeSet<Integer> sizes, List<Integer> row, int n, int least, int most) {
    if (row.size() == n) {
      if (in(sum(row), least, most)) offer(row);
      return;
    }
    int left = n - row.size();
    int greatest = row.isEmpty() ? sizes.last() : row.get(row.size() - 1);
    if (sum(row) + left * sizes.first() > most || sum(row) + left * greatest < least) return;
    for (int size : sizes.headSet(greatest, true)) {
      row.add(size);
      tryAll(sizes, row, n, least, most);
      row.remove(row.size() - 1);
    }
  }

  private int rowAnswer(int what, int i) {
    if (best == null) return NONE;
    if (what == 0) return best.size();
    if (what == 1) return sum(best);
    return i < best.size() ? best.get(i) : NONE;
  }

  private TreeSet<Integer> sizes(int table) {
    TreeSet<Integer> sizes = new TreeSet<>();
    for (int v : tables[table]) if (v > 0) sizes.add(v);
    return sizes;
  }

  int fit(int length, int gap, int what, int i) {
    if (!in(length, 1, 1000) || !in(gap, 0, 99) || !in(what, 0, 2) || i < 0) return BAD;
    TreeSet<Integer> sizes = sizes(0);
    best = null;
    bestIsGreatest = true;
    for (int n = 1; n <= length && best == null && !sizes.isEmpty(); n++) {
      tryAll(sizes, new ArrayList<>(), n, Math.max(1, length - gap), length);
    }
    return rowAnswer(what, i);
  }

  int join(int length, int lap, int what, int i) {
    if (!in(length, 1, 400) || !in(lap, 0, 50) || !in(what, 0, 2) || i < 0) return BAD;
    TreeSet<Integer> sizes = sizes(1);
    best = null;
    bestIsGreatest = false;
    for (int n = 1; n <= 20 && best == null && !sizes.isEmpty(); n++) {
      tryAll(sizes, new ArrayList<>(), n, length + lap * (n - 1), 1000000);
    }
    return rowAnswer(what, i);
  }

  int frame(int f, int lifts, int height, int width) {
    if (!isFrame(f) || !in(lifts, 1, 6) || !in(height, 1, 20) || !in(width, 1, 100)) return BAD;
    if (frames[f] != null && !frames[f].up.isEmpty()) return NO;
    for (int[] at : people.values()) if (at[0] == f) return NO;
    frames[f] = new Scaffold();
    frames[f].lifts = lifts;
    frames[f].height = height;
    frames[f].bays.add(new int[] {0, width});
    kept.clear();
    return 0;
  }

  private void loseTies(Scaffold x) {
    for (int s = 0; s <= x.bays.size(); s++) if (!x.footed(s)) x.plan.ties.remove(List.of(s, 0));
  }

  int bay(int f, int kind, int width) {
    if (!isFrame(f) || !in(kind, 0, 4) || !in(width, 1, 100)) return BAD;
    Scaffold x = frames[f];
    if (x == null || !x.up.isEmpty()) return NO;
    if (x.bays.size() == 10) return FULL;
    x.bays.add(new int[] {kind, width});
    loseTies(x);
    kept.clear();
    return x.bays.size() - 1;
  }

  int drop(int f) {
    if (!isFrame(f)) return BAD;
    Scaffold x = frames[f];
    if (x == null || x.bays.size() == 1 || !x.up.isEmpty()) return NO;
    int last = x.bays.size() - 1;
    int width = x.width(last);
    x.bays.remove(last);
    x.plan.boards.keySet().removeIf(at -> at.get(0) == last);
    x.plan.braces.removeIf(at -> at.get(0) == last);
    x.plan.ties.removeIf(at -> at.get(0) == last + 1);
    loseTies(x);
    kept.clear();
    return width;
  }

  private void keep() {
    Plan[] plans = new Plan[3];
    for (int f = 0; f < 3; f++) if (frames[f] != null) plans[f] = frames[f].plan.copy();
    kept.addLast(plans);
    if (kept.size() > 5) kept.removeFirst();
  }

  int floor(int f, int lift) {
    if (!isFrame(f)) return BAD;
    Scaffold x = frames[f];
    if (x == null) return NO;
    if (!in(lift, 0, x.lifts - 1)) return INDEX;
    keep();
    return x.plan.floors.add(lift) ? 1 : 0;
  }

  int strip(int f, int lift) {
    if (!isFrame(f)) return BAD;
    Scaffold x = frames[f];
    if (x == null) return NO;
    if (!in(lift, 0, x.lifts - 1)) return INDEX;
    if (!x.plan.floors.contains(lift)) return NOTHING;
    for (int b = 0; b < x.bays.size(); b++) if (x.up.contains(198 + 11 * lift + b)) return NO;
    keep();
    int before = x.plan.boards.size();
    x.plan.boards.keySet().removeIf(at -> at.get(1) == lift);
    x.plan.floors.remove(lift);
    return before - x.plan.boards.size();
  }

  int board(int f, int bay, int lift, int load) {
    if (!isFrame(f) || !in(load, -1, 6)) return BAD;
    Scaffold x = frames[f];
    if (x == null) return NO;
    if (!in(lift, 0, x.lifts - 1)) return INDEX;
    if (!x.plan.floors.contains(lift)) return NOTHING;
    if (!in(bay, 0, x.bays.size() - 1)) return INDEX;
    if (x.gate(bay) && lift == 0 || x.up.contains(198 + 11 * lift + bay)) return NO;
    keep();
    Integer was = load < 0 ? x.plan.boards.remove(List.of(bay, lift)) : x.plan.boards.put(List.of(bay, lift), load);
    return was == null ? -1 : was;
  }

  private static int set(TreeSet<List<Integer>> all, List<Integer> at, int on) {
    int was = all.contains(at) ? 1 : 0;
    if (on == 1) all.add(at); else all.remove(at);
    return was;
  }

  int brace(int f, int bay, int lift, int on) {
    if (!isFrame(f) || !in(on, 0, 1)) return BAD;
    Scaffold x = frames[f];
    if (x == null) return NO;
    if (!in(lift, 0, x.lifts - 1) || !in(bay, 0, x.bays.size() - 1)) return INDEX;
    if (x.gate(bay) && lift == 0 || x.up.contains(132 + 11 * lift + bay)) return NO;
    keep();
    return set(x.plan.braces, List.of(bay, lift), on);
  }

  int tie(int f, int standard, int lift, int on) {
    if (!isFrame(f) || !in(on, 0, 1)) return BAD;
    Scaffold x = frames[f];
    if (x == null) return NO;
    if (!in(lift, 0, x.lifts - 1) || !in(standard, 0, x.bays.size())) return INDEX;
    if (!x.footed(standard) && lift == 0 || x.up.contains(264 + 11 * lift + standard)) return NO;
    keep();
    return set(x.plan.ties, List.of(standard, lift), on);
  }

  int gust(int f, int p) {
    if (!isFrame(f) || !in(p, 0, 20)) return BAD;
    if (frames[f] == null) return NO;
    keep();
    int was = frames[f].plan.wind;
    frames[f].plan.wind = p;
    return was;
  }

  int undo() {
    if (kept.isEmpty()) return NO;
    Plan[] old = kept.getLast();
    for (int f = 0; f < 3; f++) {
      if (frames[f] != null && !pieces(frames[f], old[f]).keySet().containsAll(frames[f].up)) return NO;
    }
    kept.removeLast();
    for (int f = 0; f < 3; f++) if (frames[f] != null) frames[f].plan = old[f];
    return kept.size();
  }

  int about(int f, int what) {
    if (!isFrame(f) || !in(what, 0, 7)) return BAD;
    Scaffold x = frames[f];
    if (x == null) return NO;
    int widths = 0;
    for (int[] bay : x.bays) widths += bay[1];
    int[] all = {x.bays.size(), x.lifts, x.height, widths, x.plan.boards.size(), x.plan.braces.size(), x.plan.ties.size(), x.plan.wind};
    return all[what];
  }

  int told(int f, int bay, int what) {
    if (!isFrame(f) || !in(what, 0, 1)) return BAD;
    if (frames[f] == null) return NO;
    if (!in(bay, 0, frames[f].bays.size() - 1)) return INDEX;
    return frames[f].bays.get(bay)[what];
  }

  int isOf(int f, int bay, int kind) {
    if (!isFrame(f) || !in(kind, 0, 4)) return BAD;
    if (frames[f] == null) return NO;
    if (!in(bay, 0, frames[f].bays.size() - 1)) return INDEX;
    int own = frames[f].kind(bay);
    return kind == 0 || kind == own || own == 4 && kind == 2 ? 1 : 0;
  }

  int plan(int f, int place, int lift, int what) {
    if (!isFrame(f) || !in(what, 0, 2)) return BAD;
    Scaffold x = frames[f];
    if (x == null) return NO;
    if (!in(lift, 0, x.lifts - 1) || !in(place, 0, what == 2 ? x.bays.size() : x.bays.size() - 1)) return INDEX;
    List<Integer> at = List.of(place, lift);
    if (what == 0) return x.plan.boards.getOrDefault(at, -1);
    return (what == 1 ? x.plan.braces : x.plan.ties).contains(at) ? 1 : 0;
  }

  private static int twice(Scaffold x, int s) {
    int twice = 0;
    for (int l = x.footed(s) ? 0 : 1; l < x.lifts; l++) twice += 2 * x.height;
    for (Map.Entry<List<Integer>, Integer> e : x.plan.boards.entrySet()) {
      int bay = e.getKey().get(0);
      int kind = x.kind(bay);
      int weight = 2 * x.width(bay) + e.getValue();
      if (kind == 2 || kind == 4) weight += e.getValue();
      if (kind == 3) {
        if (bay == s) twice += 2 * weight;
      } else if (bay == s || bay + 1 == s) {
        twice += weight;
      }
    }
    return twice;
  }

  int load(int f, int standard) {
    if (!isFrame(f)) return BAD;
    if (frames[f] == null) return NO;
    if (!in(standard, 0, frames[f].bays.size())) return INDEX;
    return twice(frames[f], standard);
  }

  private static BigInteger[] plus(BigInteger[] a, long above, long below) {
    BigInteger n = a[0].multiply(BigInteger.valueOf(below)).add(a[1].multiply(BigInteger.valueOf(above)));
    BigInteger d = a[1].multiply(BigInteger.valueOf(below));
    BigInteger g = n.gcd(d);
    return new BigInteger[] {n.divide(g), d.divide(g)};
  }

  private static BigInteger[] atFoot(Scaffold x, int s) {
    BigInteger[] all = plus(new BigInteger[] {BigInteger.ZERO, BigInteger.ONE}, twice(x, s), 2);
    for (int u = 0; u <= x.bays.size(); u++) {
      if (x.footed(u)) continue;
      int left = u, right = u, a = 0, b = 0;
      while (!x.footed(left)) { left--; a += x.width(left); }
      while (!x.footed(right)) { b += x.width(right); right++; }
      if (left == s) all = plus(all, (long) twice(x, u) * b, 2L * (a + b));
      if (right == s) all = plus(all, (long) twice(x, u) * a, 2L * (a + b));
    }
    return all;
  }

  long foot(int f, int standard, int part) {
    if (!isFrame(f) || !in(part, 0, 1)) return BAD;
    if (frames[f] == null) return NO;
    if (!in(standard, 0, frames[f].bays.size())) return INDEX;
    if (!frames[f].footed(standard)) return NONE;
    return atFoot(frames[f], standard)[part].longValueExact();
  }

  private static Map<List<Integer>, Integer> winds(Scaffold x) {
    Map<List<Integer>, Integer> all = new HashMap<>();
    for (int b = 0; b < x.bays.size(); b++) {
      if (x.kind(b) != 4) continue;
      for (int l = 0; l < x.lifts; l++) {
        final int bay = b, lift = l;
        List<Integer> to = x.plan.ties.stream().min((p, q) -> compareLists(way(p, bay, lift), way(q, bay, lift))).orElse(List.of());
        all.merge(to, x.plan.wind * x.width(b) * x.height, Integer::sum);
      }
    }
    return all;
  }

  private static List<Integer> way(List<Integer> tie, int bay, int lift) {
    int s = tie.get(0), k = tie.get(1);
    return List.of(Math.abs(2 * s - 2 * bay - 1) + 2 * Math.abs(k - lift), s, k);
  }

  int wind(int f, int standard, int lift) {
    if (!isFrame(f)) return BAD;
    Scaffold x = frames[f];
    if (x == null) return NO;
    if (!in(standard, 0, x.bays.size()) || !in(lift, 0, x.lifts - 1)) return INDEX;
    return winds(x).getOrDefault(List.of(standard, lift), 0);
  }

  int lost(int f) {
    if (!isFrame(f)) return BAD;
    if (frames[f] == null) return NO;
    return winds(frames[f]).getOrDefault(List.of(), 0);
  }

  private static int freeOf(Scaffold x, int s) {
    boolean[] held = new boolean[x.lifts + 1];
    int low = x.footed(s) ? 0 : 1;
    held[low] = true;
    for (int l = 0; l < x.lifts; l++) if (x.plan.ties.contains(List.of(s, l))) held[l + 1] = true;
    int most = 1, run = 0;
    for (int end = low + 1; end <= x.lifts; end++) {
      run++;
      most = Math.max(most, run);
      if (held[end]) run = 0;
    }
    return most;
  }

  int free(int f, int standard) {
    if (!isFrame(f)) return BAD;
    if (frames[f] == null) return NO;
    if (!in(standard, 0, frames[f].bays.size())) return INDEX;
    return freeOf(frames[f], standard);
  }

  int over(int f, int what) {
    if (!isFrame(f) || !in(what, 0, 1)) return BAD;
    Scaffold x = frames[f];
    if (x == null) return NO;
    int answer = 0;
    if (what == 1) {
      for (Map.Entry<List<Integer>, Integer> e : winds(x).entrySet()) {
        if (!e.getKey().isEmpty() && e.getValue() > tables[2][0]) answer++;
      }
      return answer;
    }
    for (int s = 0; s <= x.bays.size(); s++) {
      BigInteger[] has = x.footed(s) ? atFoot(x, s) : new BigInteger[] {BigInteger.valueOf(twice(x, s)), BigInteger.TWO};
      BigInteger bears = BigInteger.valueOf(tables[2][freeOf(x, s)]);
      if (has[0].compareTo(bears.multiply(has[1])) > 0) answer += 1 << s;
    }
    return answer;
  }

  int rule(int which, int v) {
    int[][] ends = {{0, 9}, {1, 6}, {0, 10}};
    if (!in(which, 0, 2) || !in(v, ends[which][0], ends[which][1])) return BAD;
    int was = rules[which];
    rules[which] = v;
    return was;
  }

  private List<int[]> breachesOf(Scaffold x) {
    List<int[]> all = new ArrayList<>();
    int n = x.bays.size();
    for (int l = 0; l < x.lifts && rules[0] > 0; l++) {
      if (l > 0 && l + rules[1] > x.lifts) break;
      for (int s = 0; s <= n; s++) {
        if (s > 0 && s + rules[0] > n) break;
        final int low = l, left = s;
        if (x.plan.ties.stream().noneMatch(t -> in(t.get(0), left, left + rules[0]) && in(t.get(1), low, low + rules[1] - 1))) all.add(new int[] {0, l, s});
      }
    }
    for (int l = 0; l < x.lifts && rules[2] > 0; l++) {
      for (int b = 0; b < n; b++) {
        if (b > 0 && b + rules[2] > n) break;
        boolean braced = false;
        for (int k = b; k < n && k < b + rules[2]; k++) braced |= x.plan.braces.contains(List.of(k, l)) || l == 0 && x.gate(k);
        if (!braced) all.add(new int[] {1, l, b});
      }
    }
    return all;
  }

  int breaches(int f) {
    if (!isFrame(f)) return BAD;
    return frames[f] == null ? NO : breachesOf(frames[f]).size();
  }

  int breach(int f, int i, int what) {
    if (!isFrame(f) || i < 0 || !in(what, 0, 2)) return BAD;
    if (frames[f] == null) return NO;
    List<int[]> all = breachesOf(frames[f]);
    return i < all.size() ? all.get(i)[what] : NONE;
  }

  private static int number(int kind, int lift, int place) { return 66 * kind + 11 * lift + place; }

  /** Each piece of a frame with what it needs. */
  private static TreeMap<Integer, List<Integer>> pieces(Scaffold x, Plan plan) {
    TreeMap<Integer, List<Integer>> all = new TreeMap<>();
    int n = x.bays.size();
    for (int s = 0; s <= n; s++) {
      int low = x.footed(s) ? 0 : 1;
      for (int l = low; l < x.lifts; l++) {
        List<Integer> needs = List.of();
        if (l > low) needs = List.of(number(0, l - 1, s));
        else if (low == 1) needs = List.of(number(5, 0, s - 1), number(5, 0, s));
        all.put(number(0, l, s), needs);
      }
    }
    for (int b = 0; b < n; b++) {
      for (int l = x.gate(b) ? 1 : 0; l < x.lifts; l++) all.put(number(1, l, b), List.of(number(0, l, b), number(0, l, b + 1)));
      if (x.gate(b)) {
        int left = b, right = b + 1;
        while (!x.footed(left)) left--;
        while (!x.footed(right)) right++;
        all.put(number(5, 0, b), List.of(left, right));
      }
    }
    for (List<Integer> at : plan.braces) all.put(number(2, at.get(1), at.get(0)), List.of(number(1, at.get(1), at.get(0))));
    for (List<Integer> at : plan.boards.keySet()) all.put(number(3, at.get(1), at.get(0)), List.of(number(1, at.get(1), at.get(0))));
    for (List<Integer> at : plan.ties) all.put(number(4, at.get(1), at.get(0)), List.of(number(0, at.get(1), at.get(0))));
    return all;
  }

  private static boolean canPut(Scaffold x, Map<Integer, List<Integer>> all, int piece) {
    return !x.up.contains(piece) && x.up.containsAll(all.get(piece));
  }

  private static boolean canTake(Scaffold x, Map<Integer, List<Integer>> all, int piece) {
    if (!x.up.contains(piece)) return false;
    for (int other : x.up) if (all.get(other).contains(piece)) return false;
    return true;
  }

  private static void endTags(Scaffold x, int piece) {
    x.tags.keySet().removeIf(lift -> lift >= piece % 66 / 11);
  }

  int put(int f, int piece) {
    if (!isFrame(f)) return BAD;
    Scaffold x = frames[f];
    if (x == null) return NO;
    TreeMap<Integer, List<Integer>> all = pieces(x, x.plan);
    if (!all.containsKey(piece)) return BAD;
    if (!canPut(x, all, piece)) return NO;
    x.up.add(piece);
    endTags(x, piece);
    return x.up.size();
  }

  int take(int f, int piece) {
    if (!isFrame(f)) return BAD;
    Scaffold x = frames[f];
    if (x == null) return NO;
    TreeMap<Integer, List<Integer>> all = pieces(x, x.plan);
    if (!all.containsKey(piece)) return BAD;
    if (!canTake(x, all, piece)) return NO;
    x.up.remove(piece);
    endTags(x, piece);
    return x.up.size();
  }

  int next(int f, int what) {
    if (!isFrame(f) || !in(what, 0, 2)) return BAD;
    Scaffold x = frames[f];
    if (x == null) return NO;
    TreeMap<Integer, List<Integer>> all = pieces(x, x.plan);
    for (int piece : what == 1 ? all.descendingKeySet() : all.keySet()) {
      if (what == 0 && canPut(x, all, piece)) return piece;
      if (what == 1 && canTake(x, all, piece)) return piece;
      if (what == 2 && !x.up.contains(piece)) return piece;
    }
    return NONE;
  }

  int go(int f, int n, int on) {
    if (!isFrame(f) || !in(n, 1, 400) || !in(on, 0, 1)) return BAD;
    if (frames[f] == null) return NO;
    for (int done = 0; done < n; done++) {
      int piece = next(f, on == 1 ? 0 : 1);
      if (piece == NONE) return done;
      if (on == 1) put(f, piece); else take(f, piece);
    }
    return n;
  }

  int isUp(int f, int piece) {
    if (!isFrame(f)) return BAD;
    Scaffold x = frames[f];
    if (x == null) return NO;
    if (!pieces(x, x.plan).containsKey(piece)) return NONE;
    return x.up.contains(piece) ? 1 : 0;
  }

  int day(int n) {
    if (!in(n, 0, 1000) || today + n > 1000000) return BAD;
    today += n;
    for (Scaffold x : frames) if (x != null) x.tags.values().removeIf(last -> today > last);
    return today;
  }

  int storm() {
    int ended = count(2);
    for (Scaffold x : frames) if (x != null) x.tags.clear();
    return ended;
  }

  int tag(int f, int lift, int n) {
    if (!isFrame(f) || !in(n, 1, 30)) return BAD;
    Scaffold x = frames[f];
    if (x == null) return NO;
    if (!in(lift, 0, x.lifts - 1)) return INDEX;
    for (int piece : pieces(x, x.plan).keySet()) if (piece % 66 / 11 <= lift && !x.up.contains(piece)) return NO;
    for (int[] breach : breachesOf(x)) if (breach[1] <= lift) return NO;
    if (over(f, 0) != 0) return NO;
    x.tags.put(lift, today + n - 1);
    return today + n - 1;
  }

  int tagged(int f, int lift) {
    if (!isFrame(f)) return BAD;
    if (frames[f] == null) return NO;
    if (!in(lift, 0, frames[f].lifts - 1)) return INDEX;
    return frames[f].tags.getOrDefault(lift, NONE);
  }

  int enter(int person, int f, int lift) {
    if (!in(person, 0, 9) || !isFrame(f)) return BAD;
    if (frames[f] == null) return NO;
    if (!in(lift, 0, frames[f].lifts - 1)) return INDEX;
    if (!frames[f].tags.containsKey(lift) || people.containsKey(person)) return NO;
    people.put(person, new int[] {f, lift});
    return (int) people.values().stream().filter(at -> at[0] == f && at[1] == lift).count();
  }

  int leave(int person) {
    if (!in(person, 0, 9)) return BAD;
    int[] at = people.remove(person);
    return at == null ? NO : 10 * at[0] + at[1];
  }

  int stranded() {
    int bits = 0;
    for (int person : people.keySet()) {
      int[] at = people.get(person);
      if (!frames[at[0]].tags.containsKey(at[1])) bits |= 1 << person;
    }
    return bits;
  }

  int stock(int kind, int width, int v) {
    if (!in(kind, 0, 5) || !in(width, 1, 100) || !in(v, 0, 100000)) return BAD;
    Integer was = stocks.put(List.of(kind, width), v);
    return was == null ? 0 : was;
  }

  int wants(int f, int kind, int width) {
    if (!isFrame(f) || !in(kind, 0, 5) || !in(width, 1, 100)) return BAD;
    Scaffold x = frames[f];
    if (x == null) return NO;
    int many = 0;
    for (int piece : pieces(x, x.plan).keySet()) {
      if (piece / 66 != kind) continue;
      int size = kind == 0 ? x.height : kind == 4 ? 1 : x.width(piece % 11);
      if (size == width) many++;
    }
    return many;
  }

  int lacks(int kind, int width) {
    if (!in(kind, 0, 5) || !in(width, 1, 100)) return BAD;
    int many = -stocks.getOrDefault(List.of(kind, width), 0);
    for (int f = 0; f < 3; f++) if (frames[f] != null) many += wants(f, kind, width);
    return Math.max(0, many);
  }

  private static boolean fitsInto(List<int[]> some, List<int[]> all) {
    int done = 0;
    for (int[] bay : all) {
      if (done < some.size() && some.get(done)[0] == bay[0] && some.get(done)[1] == bay[1]) done++;
    }
    return done == some.size();
  }

  int stays(int f, int g, int i) {
    if (!isFrame(f) || !isFrame(g) || i < -1) return BAD;
    if (frames[f] == null || frames[g] == null) return NO;
    List<int[]> from = frames[f].bays;
    List<Integer> chosen = new ArrayList<>();
    for (int mask = 0; mask < 1 << from.size(); mask++) {
      List<int[]> some = new ArrayList<>();
      List<Integer> at = new ArrayList<>();
      for (int k = 0; k < from.size(); k++) {
        if ((mask >> k & 1) == 1) { some.add(from.get(k)); at.add(k); }
      }
      boolean better = at.size() > chosen.size() || at.size() == chosen.size() && compareLists(at, chosen) < 0;
      if (better && fitsInto(some, frames[g].bays)) chosen = at;
    }
    if (i == -1) return chosen.size();
    return i < chosen.size() ? chosen.get(i) : NONE;
  }

  int count(int what) {
    if (!in(what, 0, 5)) return BAD;
    int there = 0, up = 0, tags = 0;
    for (Scaffold x : frames) {
      if (x == null) continue;
      there++;
      up += x.up.size();
      tags += x.tags.size();
    }
    int[] all = {there, up, tags, people.size(), today, kept.size()};
    return all[what];
  }
}
