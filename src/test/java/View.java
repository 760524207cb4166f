import java.util.Arrays;
import java.util.LinkedHashMap;
import java.util.Map;
import java.util.ArrayList;
import java.util.List;

/**
 * All that can be asked of a yard that was made by a deed. As an object is promised for 512
 * calls alone, and as some questions change it, each part is asked of a yard made anew.
 */
final class View {
  private final Deed made;
  private final Map<String, Long> answers = new LinkedHashMap<>();
  private String prefix = "";
  private ScaffoldYard x;

  private View(Deed made) {
    this.made = made;
  }

  static View of(Deed made) {
    View view = new View(made);
    for (int f = 0; f < 3; f++) view.frame(f);
    view.rest();
    for (int f = 0; f < 3; f++) {
      for (int k = 1; k <= 5; k += 2) view.undone(f, k);
    }
    return view;
  }

  /** What can be asked of one frame, but for what it shares with others. */
  static View ofFrame(Deed made, int f) {
    View view = new View(made);
    view.frame(f);
    return view;
  }

  /** The first question that two views answer otherwise; null: there is none. */
  String otherThan(View other) {
    List<String> all = changesFrom(other);
    return all.isEmpty() ? null : all.get(0);
  }

  /** Each question that another view answers otherwise, with what it was and what it is. */
  List<String> changesFrom(View other) {
    List<String> all = new ArrayList<>();
    for (String name : answers.keySet()) {
      long was = other.answers.get(name), is = answers.get(name);
      if (was != is) all.add(name + ": " + word(was) + " > " + word(is));
    }
    return all;
  }

  private static String word(long answer) {
    if (answer == ScaffoldYard.NO) return "NO";
    if (answer == ScaffoldYard.INDEX) return "INDEX";
    return answer == ScaffoldYard.NONE ? "NONE" : Long.toString(answer);
  }

  private void anew() {
    x = new ScaffoldYard();
    made.on(x);
  }

  private void note(long answer, String name, int... args) {
    answers.put(prefix + name + Arrays.toString(args), answer);
  }

  private void frame(int f) {
    anew();
    for (int what = 0; what < 8; what++) note(x.about(f, what), "about", f, what);
    for (int bay = 0; bay < 10; bay++) {
      note(x.told(f, bay, 0), "told", f, bay, 0);
      note(x.told(f, bay, 1), "told", f, bay, 1);
      note(x.isOf(f, bay, 2), "isOf", f, bay, 2);
    }
    for (int lift = 0; lift < 6; lift++) note(x.tagged(f, lift), "tagged", f, lift);
    for (int lift = 0; lift < 6; lift++) note(x.floor(f, lift), "floor", f, lift);
    anew();
    plan(f);
    for (int half = 0; half < 2; half++) {
      anew();
      for (int piece = 198 * half; piece < 198 * (half + 1); piece++) note(x.isUp(f, piece), "isUp", f, piece);
    }
    anew();
    for (int what = 0; what < 3; what++) note(x.next(f, what), "next", f, what);
    for (int kind = 0; kind < 6; kind++) {
      for (int width = 1; width < 8; width++) note(x.wants(f, kind, width), "wants", f, kind, width);
    }
    note(x.go(f, 400, 0), "go", f, 400, 0);
    loads(f);
  }

  private void loads(int f) {
    anew();
    for (int s = 0; s < 11; s++) {
      note(x.load(f, s), "load", f, s);
      note(x.foot(f, s, 0), "foot", f, s, 0);
      note(x.foot(f, s, 1), "foot", f, s, 1);
      note(x.free(f, s), "free", f, s);
      for (int lift = 0; lift < 6; lift++) note(x.wind(f, s, lift), "wind", f, s, lift);
    }
    note(x.over(f, 0), "over", f, 0);
    note(x.over(f, 1), "over", f, 1);
    note(x.lost(f), "lost", f);
    note(x.breaches(f), "breaches", f);
    for (int i = 0; i < 20; i++) {
      for (int what = 0; what < 3; what++) note(x.breach(f, i, what), "breach", f, i, what);
    }
  }

  private void plan(int f) {
    for (int lift = 0; lift < 6; lift++) {
      for (int place = 0; place < 11; place++) {
        for (int what = 0; what < 3; what++) note(x.plan(f, place, lift, what), "plan", f, place, lift, what);
      }
    }
  }

  /** What is answered with what there was, is asked by setting it anew. */
  private void rest() {
    anew();
    for (int what = 0; what < 6; what++) note(x.count(what), "count", what);
    note(x.stranded(), "stranded");
    for (int person = 0; person < 10; person++) note(x.leave(person), "leave", person);
    for (int which = 0; which < 3; which++) note(x.rule(which, 1), "rule", which);
    for (int table = 0; table < 3; table++) {
      for (int place = 0; place < (table == 2 ? 7 : 6); place++) note(x.table(table, place, 1), "table", table, place);
    }
    for (int half = 0; half < 2; half++) {
      anew();
      for (int kind = 3 * half; kind < 3 * half + 3; kind++) {
        for (int width = 1; width <= 100; width++) note(x.stock(kind, width, 0), "stock", kind, width);
      }
    }
  }

  /** The plan as some changes are taken back, with nothing up that could be in the way. */
  private void undone(int f, int changes) {
    anew();
    for (int g = 0; g < 3; g++) x.go(g, 400, 0);
    prefix = "undone " + changes + ": ";
    for (int k = 0; k < changes; k++) note(x.undo(), "undo", k);
    note(x.about(f, 7), "about", f, 7);
    plan(f);
    for (int lift = 0; lift < 6; lift++) note(x.floor(f, lift), "floor", f, lift);
    prefix = "";
  }
}
