import java.lang.reflect.Method;
import java.lang.reflect.Modifier;
import java.util.ArrayList;
import java.util.Comparator;
import java.util.List;
import java.util.Random;

/** Runs of drawn calls (the seeds are fixed) on the program and on NightModel: every answer must be the same. */
public final class ModelTest {
  private static final int RUNS = 400, CALLS = 500, MOST_CALLS = 512;

  private final Random random;
  private final NightLetIn real = new NightLetIn();
  private final NightModel model = new NightModel();
  private final List<String> story = new ArrayList<>();
  private boolean failed;

  private ModelTest(long seed) { random = new Random(seed); }

  public static void main(String[] args) throws Exception {
    int runs = args.length > 0 ? Integer.parseInt(args[0]) : RUNS;
    long first = args.length > 1 ? Long.parseLong(args[1]) : 0;
    List<Method> methods = new ArrayList<>();
    for (Method m : NightLetIn.class.getDeclaredMethods()) if (Modifier.isPublic(m.getModifiers())) methods.add(m);
    methods.sort(Comparator.comparing(Method::getName));
    int wrong = 0;
    for (long run = first; run < first + runs; run++) {
      ModelTest test = new ModelTest(run);
      test.go(methods);
      if (test.failed) {
        wrong++;
        System.out.println("run " + run + ":");
        for (String s : test.story) System.out.println("  " + s);
        if (wrong == 3) break;
      }
    }
    System.out.println(wrong == 0 ? runs + " runs as the model" : "unlike the model");
    if (wrong != 0) System.exit(1);
  }

  private void go(List<Method> methods) throws Exception {
    int calls = 0;
    int barns = random.nextInt(6), boys = random.nextInt(9), lamps = random.nextInt(7);
    for (int i = 0; i < barns; i++) call("barn", random.nextInt(100), random.nextInt(100));
    for (int i = 0; i < boys; i++) {
      call("boy", random.nextInt(random.nextBoolean() ? 31 : 8));
      if (barns > 0 && random.nextInt(5) > 0) call("mend", i, 4, random.nextInt(barns));
    }
    for (int i = 0; i < lamps; i++) call("lamp", random.nextInt(100), random.nextInt(20));
    if (random.nextInt(3) > 0) call("row", 0, 0, random.nextInt(61));
    if (random.nextInt(3) > 0) call("row", 1, 0, random.nextInt(6));
    if (random.nextBoolean()) sleptRow();
    while (story.size() < CALLS && !failed) {
      int kind = random.nextInt(60);
      if (kind == 0 && calls++ < 3) lawText();
      else if (kind == 1) sleptRow();
      else if (kind == 2) for (int i = 0; i < 8; i++) call("put", 0, random.nextInt(60), random.nextInt(7) - 1);
      else {
        Method m = methods.get(random.nextInt(methods.size()));
        int[] a = new int[m.getParameterCount()];
        for (int i = 0; i < a.length; i++) a[i] = Draw.argument(random, m.getName(), i);
        call(m.getName(), a);
      }
    }
  }

  /** Fills a row with who will sleep, so that JUDGED and its like often find all so. */
  private void sleptRow() throws Exception {
    int shelf = random.nextInt(6), size = random.nextInt(9);
    call("row", shelf, 0, 0);
    int[] who = new int[size];
    for (int d = 0; d < size; d++) who[d] = (int) call("sleeps", shelf, d);
    call("row", shelf, 0, size);
    for (int d = 0; d < size; d++) call("put", shelf, d, who[d]);
    if (size > 0 && random.nextInt(4) == 0) call("put", shelf, random.nextInt(size), random.nextInt(256));
  }

  private void lawText() throws Exception {
    StringBuilder text = new StringBuilder();
    int lines = 1 + random.nextInt(3);
    for (int i = 0; i < lines; i++) {
      if (i > 0) text.append(';');
      if (random.nextBoolean()) text.append(join(2, 0)).append('?');
      text.append(random.nextBoolean() ? "a-" : "").append(join(2, 0));
    }
    if (random.nextInt(3) == 0 && text.length() > 0) {
      String signs = "|&<=>+-*/%!()?;abltnd0129 zA";
      text.setCharAt(random.nextInt(text.length()), signs.charAt(random.nextInt(signs.length())));
    }
    if (random.nextInt(6) == 0) text.setLength(random.nextInt(text.length() + 1));
    for (int i = 0; i < Math.min(60, text.length()); i++) call("feed", (int) text.charAt(i));
    call("law");
  }

  private String join(int size, int open) {
    StringBuilder s = new StringBuilder(operand(size, open));
    String signs = "|&<=>+-*/%";
    for (int n = random.nextInt(3); n > 0; n--) s.append(signs.charAt(random.nextInt(10))).append(operand(size, open));
    return s.toString();
  }

  private String operand(int size, int open) {
    int kind = random.nextInt(10);
    if (kind == 0 && size > 0) return "(" + join(size - 1, open + 1) + ")";
    if (kind == 1) return "!" + operand(size, open + 1);
    if (kind == 2) return "-" + operand(size, open + 1);
    if (kind < 5) return Integer.toString(random.nextInt(random.nextBoolean() ? 10 : 1100));
    return Character.toString("abltnd".charAt(random.nextInt(6)));
  }

  private long call(String name, int... a) throws Exception {
    if (failed || story.size() >= MOST_CALLS) return 0;
    Class<?>[] types = new Class<?>[a.length];
    Object[] values = new Object[a.length];
    for (int i = 0; i < a.length; i++) {
      boolean wide = name.equals("put") && i == 2;
      types[i] = wide ? long.class : int.class;
      if (wide) values[i] = (long) a[i] * (random.nextInt(4) == 0 ? 4294967297L : 1L);
      else values[i] = a[i];
    }
    long got = ((Number) NightLetIn.class.getMethod(name, types).invoke(real, values)).longValue();
    long want = ((Number) NightModel.class.getMethod(name, types).invoke(model, values)).longValue();
    StringBuilder text = new StringBuilder(name).append('(');
    for (int i = 0; i < values.length; i++) text.append(i > 0 ? ", " : "").append(values[i]);
    text.append(") -> ").append(got);
    if (got != want) {
      failed = true;
      text.append(", the model answers ").append(want);
    }
    story.add(text.toString());
    return got;
  }
}
