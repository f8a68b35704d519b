import java.lang.reflect.Method;
import java.lang.reflect.Modifier;
import java.util.ArrayList;
import java.util.Comparator;
import java.util.List;
import java.util.Random;
import java.util.Set;

/**
 * "What is answered so changes nothing": of two objects one has refused calls and mere questions more than the other
 * (the seeds are fixed), and both must answer alike all the same, to the end.
 */
public final class RefusalTest {
  private static final int RUNS = 600, CALLS = 200;
  private static final Set<String> QUESTIONS = Set.of("of", "later", "sleeps", "often", "blue", "keeps", "turnings",
      "beds", "deal", "out", "where", "stays", "meet", "darkest", "judge", "howBad", "thawed", "which", "share",
      "drawn", "led", "trace", "element", "taken", "count");
  /** These change something, or may, whatever they answer. */
  private static final Set<String> NEVER_REFUSED = Set.of("law", "act");

  private final Random random;
  private final NightLetIn more = new NightLetIn();
  private final NightLetIn less = new NightLetIn();
  private final List<String> story = new ArrayList<>();
  private int refused;

  private RefusalTest(long seed) { random = new Random(seed); }

  public static void main(String[] args) throws Exception {
    List<Method> methods = new ArrayList<>();
    for (Method m : NightLetIn.class.getDeclaredMethods()) if (Modifier.isPublic(m.getModifiers())) methods.add(m);
    methods.sort(Comparator.comparing(Method::getName));
    int refused = 0;
    for (long seed = 0; seed < RUNS; seed++) {
      RefusalTest test = new RefusalTest(seed);
      test.go(methods);
      refused += test.refused;
    }
    Due.is("many calls were refused", 1, refused > 10 * RUNS ? 1 : 0);
    Due.end();
  }

  private void go(List<Method> methods) throws Exception {
    begin();
    for (int i = 0; i < CALLS; i++) {
      Method m = methods.get(random.nextInt(methods.size()));
      Object[] values = new Object[m.getParameterCount()];
      for (int k = 0; k < values.length; k++) {
        int v = Draw.argument(random, m.getName(), k);
        if (m.getParameterTypes()[k] == long.class) values[k] = (long) v;
        else values[k] = v;
      }
      ask(m, values);
    }
    compareAll();
  }

  private void begin() {
    int barns = random.nextInt(6), boys = random.nextInt(9), lamps = random.nextInt(7);
    for (NightLetIn x : List.of(more, less)) {
      for (int i = 0; i < barns; i++) x.barn(i * 17, 20 * i);
      for (int i = 0; i < boys; i++) Due.boyIn(x, i, i % 5);
      for (int i = 0; i < lamps; i++) x.lamp(i * 13, 3 * i);
      for (int i = 0; i < 4; i++) x.body(i);
      x.row(0, 0, 9);
      x.row(1, 2, 9);
      x.keep(2, 3);
    }
  }

  private void ask(Method m, Object[] values) throws Exception {
    long answer = ((Number) m.invoke(more, values)).longValue();
    String name = m.getName();
    boolean isRefused = name.equals("mend") ? answer == NightLetIn.VOID : answer < 0 && !NEVER_REFUSED.contains(name);
    if (isRefused) refused++;
    story.add(name + java.util.Arrays.toString(values) + " -> " + answer);
    if (isRefused || QUESTIONS.contains(name) && random.nextBoolean()) return;
    same(name, answer, ((Number) m.invoke(less, values)).longValue());
  }

  private void same(String call, long answer, long other) {
    if (answer == other) return;
    if (story.size() > 0) for (String s : story) System.out.println("  " + s);
    Due.is(call + " with refused calls ahead of it", other, answer);
    story.clear();
  }

  private void compareAll() {
    for (int what = 0; what <= 10; what++) {
      for (int n = 0; n < 8; n++) same("of", more.of(n, what), less.of(n, what));
    }
    for (int what = 0; what < 5; what++) same("led", more.led(what), less.led(what));
    for (int what = 0; what < 7; what++) same("count", more.count(what), less.count(what));
    for (int i = 0; i < 24; i++) same("trace", more.trace(i), less.trace(i));
    for (int shelf = 0; shelf < 6; shelf++) {
      same("taken", more.taken(shelf, 0), less.taken(shelf, 0));
      same("put", more.put(shelf, 99, 0), less.put(shelf, 99, 0));
      for (int i = 0; i < 12; i++) same("element", more.element(shelf, i), less.element(shelf, i));
    }
    same("redo", more.redo(), less.redo());
    for (int i = 0; i < 42; i++) same("undo", more.undo(), less.undo());
    same("back", more.back(), less.back());
    same("law", more.law(), less.law());
    for (int day = 0; day < 3; day++) same("day", more.day(day), less.day(day));
    for (int n = 0; n < 5; n++) same("night", more.of(n, 0), less.of(n, 0));
  }
}
