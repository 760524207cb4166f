import java.lang.reflect.InvocationTargetException;
import java.lang.reflect.Method;
import java.util.Arrays;
import java.util.Map;
import java.util.TreeMap;

/**
 * No call throws, whatever it is given: each call with each of a list of numbers at each place, in
 * a yard in which much goes on, and held against SlowYard, so that the answers are right, too.
 */
public final class ArgumentsTest {
  private static final int[] NUMBERS = {
    Integer.MIN_VALUE, Integer.MIN_VALUE + 1, -1000000013, -2, -1, 0, 1, 2, 3, 6, 10, 11, 100, 395, 1000, 1000001, Integer.MAX_VALUE - 1, Integer.MAX_VALUE
  };
  private static final int MOST_CALLS = 400;

  private final Map<String, Method> calls = new TreeMap<>();
  private final Map<String, Method> slow = new TreeMap<>();
  private ScaffoldYard x;
  private SlowYard y;
  private int since;

  private ArgumentsTest() throws Exception {
    for (Method m : ScaffoldYard.class.getMethods()) {
      if (m.getDeclaringClass() != ScaffoldYard.class) continue;
      calls.put(m.getName(), m);
      slow.put(m.getName(), SlowYard.class.getDeclaredMethod(m.getName(), m.getParameterTypes()));
    }
    Due.is("all calls", calls.size(), 43);
  }

  private void both(String name, Integer... args) throws Exception {
    String told = name + Arrays.toString(args);
    long due = ((Number) slow.get(name).invoke(y, (Object[]) args)).longValue();
    try {
      Due.is(told, ((Number) calls.get(name).invoke(x, (Object[]) args)).longValue(), due);
    } catch (InvocationTargetException e) {
      System.out.println(told + " threw " + e.getCause());
      Due.is(told + " throws", 1, 0);
    }
    since++;
  }

  private void anew() throws Exception {
    x = new ScaffoldYard();
    y = new SlowYard();
    since = 0;
    both("table", 0, 0, 7);
    both("table", 0, 1, 100);
    both("table", 1, 5, 60);
    for (int f = 0; f < 2; f++) {
      both("frame", f, 3, 2, 3);
      for (int kind : new int[] {1, 1, 4, 3}) both("bay", f, kind, 1 + kind);
      both("floor", f, 1);
      both("board", f, 3, 1, 4);
      both("brace", f, 2, 1, 1);
      both("tie", f, 2, 1, 1);
      both("gust", f, 3);
    }
    both("go", 0, 400, 1);
    both("tag", 0, 1, 30);
    both("enter", 2, 0, 1);
    both("go", 1, 6, 1);
    both("rule", 0, 3);
    both("rule", 2, 2);
  }

  private void all(String name, Integer[] args, int place) throws Exception {
    if (place == args.length) {
      if (since >= MOST_CALLS) anew();
      both(name, args);
      return;
    }
    for (int number : NUMBERS) {
      args[place] = number;
      all(name, args, place + 1);
    }
  }

  public static void main(String[] args) throws Exception {
    ArgumentsTest test = new ArgumentsTest();
    for (String name : test.calls.keySet()) {
      test.anew();
      test.all(name, new Integer[test.calls.get(name).getParameterCount()], 0);
    }
    Due.end();
  }
}
