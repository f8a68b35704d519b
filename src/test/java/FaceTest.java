import java.lang.reflect.Constructor;
import java.lang.reflect.Field;
import java.lang.reflect.Method;
import java.lang.reflect.Modifier;
import java.nio.file.Files;
import java.nio.file.Path;
import java.util.ArrayList;
import java.util.Arrays;
import java.util.HashSet;
import java.util.List;
import java.util.Random;
import java.util.Set;
import java.util.TreeSet;
import java.util.regex.Matcher;
import java.util.regex.Pattern;

/** The public face, some rules of LANGUAGE.md that can be seen from outside, and the room that calls take. */
public final class FaceTest {
  private static final String FACE = "barn(int,int) boy(int) boys(int,int,int) lamp(int,int) mend(int,int,int) "
      + "of(int,int) feed(int) law() later(int,int,int,int) sleeps(int,int) often(int,int,int) blue(int,int) "
      + "keeps(int,int) turnings(int,int) beds(int) deal(int,int) out(int,int) where(int,int) stays(int,int,int) "
      + "meet(int,int,int) darkest(int) judge(int) howBad(int,int) thawed(int,int) which(int,int) share(int,int) "
      + "drawn(int,int,int) day(int) fork(int,int) letOut(int) led(int) image() back() undo() redo() body(int) "
      + "act(int,int,int) trace(int) keep(int,int) row(int,int,int) put(int,int,long) element(int,int) "
      + "shift(int,int,int,int,int) taken(int,int) count(int)";
  private static final List<String> CONSTANTS = List.of("BAD=-1", "NOT=-2", "FULL=-3", "STATE=-5", "VOID=-2000000000");

  public static void main(String[] args) throws Exception {
    methods();
    fields();
    words();
    library();
    room();
    oddArguments();
    Due.end();
  }

  private static void fail(String what) { Due.is(what, 0, 1); }

  private static void methods() {
    Set<String> want = new TreeSet<>(Arrays.asList(FACE.split(" ")));
    Set<String> got = new TreeSet<>();
    Set<String> hidden = new HashSet<>();
    Set<String> names = new HashSet<>();
    for (Method m : NightLetIn.class.getDeclaredMethods()) {
      if (m.isSynthetic()) continue;
      if (Modifier.isPrivate(m.getModifiers())) { hidden.add(m.getName()); continue; }
      if (!Modifier.isPublic(m.getModifiers()) || Modifier.isStatic(m.getModifiers())) fail(m + " is not of the face");
      StringBuilder s = new StringBuilder();
      for (Class<?> p : m.getParameterTypes()) s.append(s.length() > 0 ? "," : "").append(p.getName());
      got.add(m.getName() + "(" + s + ")");
      names.add(m.getName());
      Class<?> type = m.getName().equals("element") ? long.class : int.class;
      if (m.getReturnType() != type) fail(m + " answers another type");
    }
    if (!got.equals(want)) fail("the face is " + got);
    for (Class<?> c : NightLetIn.class.getDeclaredClasses()) {
      if (!Modifier.isStatic(c.getModifiers())) fail(c + " is not static");
      for (Method m : c.getDeclaredMethods()) hidden.add(m.getName());
    }
    hidden.retainAll(names);
    if (!hidden.isEmpty()) fail("private methods with names of the face: " + hidden);
    Constructor<?>[] made = NightLetIn.class.getDeclaredConstructors();
    if (made.length != 1 || made[0].getParameterCount() != 0) fail("constructors");
    if (!Modifier.isFinal(NightLetIn.class.getModifiers())) fail("the class is not final");
    if (NightLetIn.class.getDeclaredClasses().length > 12) fail("more than twelve classes");
  }

  private static void fields() throws Exception {
    Set<String> got = new HashSet<>();
    for (Field f : NightLetIn.class.getDeclaredFields()) {
      boolean open = !Modifier.isPrivate(f.getModifiers());
      if (open) got.add(f.getName() + "=" + f.getInt(null));
      if (Modifier.isStatic(f.getModifiers()) && !Modifier.isFinal(f.getModifiers())) fail(f + " is not final");
    }
    if (!got.equals(new HashSet<>(CONSTANTS))) fail("the constants are " + got);
    for (Class<?> c : NightLetIn.class.getDeclaredClasses()) {
      int own = 0;
      for (Field f : c.getDeclaredFields()) {
        if (!Modifier.isStatic(f.getModifiers())) own++;
        else if (!Modifier.isFinal(f.getModifiers())) fail(f + " is not final");
      }
      if (own > 20) fail(c + " has " + own + " fields");
    }
  }

  /** Words and signs that LANGUAGE.md does not leave. */
  private static void words() throws Exception {
    String text = Files.readString(Path.of("src/main/java/NightLetIn.java"));
    text = text.replaceAll("(?s)/\\*.*?\\*/", " ").replaceAll("//[^\n]*", " ");
    String[] never = {"throw", "throws", "try", "catch", "finally", "synchronized", "assert", "package", "volatile",
        "transient", "native", "Object", "Exception", "System\\.(?!arraycopy)", "Math\\.\\w+Exact", "->", "::",
        "new \\w+\\s*\\([^)]*\\)\\s*\\{", "static\\s*\\{", "hashCode", "toString", "Random", "Thread", "java\\.(?!util)"};
    for (String n : never) {
      String edge = n.matches("\\w+") ? "\\b" : "";
      if (Pattern.compile(edge + n + edge).matcher(text).find()) fail("NightLetIn.java has " + n);
    }
    int from = 0;
    String[] lines = text.split("\n", -1);
    for (int i = 0; i < lines.length; i++) {
      if (lines[i].matches(" {4}( {4})?(private |public |static )*[\\w\\[\\]]+ \\w+\\(.*\\) \\{")) from = i;
      if (lines[i].matches(" {4}( {4})?\\}") && i - from > 60) fail("a method of more than 60 lines ends at " + (i + 1));
      if (lines[i].chars().anyMatch(c -> c > 126)) fail("line " + (i + 1) + " has another sign than ASCII");
    }
  }

  /** What stands behind the name of a class of the library: rule 4 leaves no more (DOC.md itself names Long.MIN_VALUE). */
  private static void library() throws Exception {
    Set<String> left = Set.of("Arrays.fill", "System.arraycopy", "Math.max", "Math.min", "Math.abs", "Integer.bitCount",
        "Long.MIN_VALUE");
    String text = Files.readString(Path.of("src/main/java/NightLetIn.java"));
    text = text.replaceAll("(?s)/\\*.*?\\*/", " ").replaceAll("//[^\n]*", " ");
    text = text.replaceFirst("import java\\.util\\.Arrays;", " ");
    if (text.contains("import ")) fail("NightLetIn.java imports more than Arrays");
    Matcher used = Pattern.compile("\\b(Arrays|System|Math|Integer|Long|Short|Byte|Character|Boolean|String)\\.\\w+")
        .matcher(text);
    while (used.find()) if (!left.contains(used.group())) fail("NightLetIn.java uses " + used.group());
  }

  /** A call makes nothing: what a run takes is what its object takes. */
  private static void room() {
    com.sun.management.ThreadMXBean bean =
        (com.sun.management.ThreadMXBean) java.lang.management.ManagementFactory.getThreadMXBean();
    long id = Thread.currentThread().getId();
    NightLetIn x = new NightLetIn();
    everyCall(x);
    long before = bean.getThreadAllocatedBytes(id);
    everyCall(x);
    long taken = bean.getThreadAllocatedBytes(id) - before;
    if (taken > 2000) fail("the calls took " + taken + " bytes");
    before = bean.getThreadAllocatedBytes(id);
    for (int i = 0; i < 100; i++) x = new NightLetIn();
    long each = (bean.getThreadAllocatedBytes(id) - before) / 100;
    if (each > 20000) fail("an object takes " + each + " bytes");
  }

  private static void everyCall(NightLetIn x) {
    x.barn(44, 60);
    x.boy(3);
    x.mend(0, 4, 0);
    x.lamp(45, 8);
    x.row(0, 0, 5);
    x.put(0, 0, 1);
    x.boys(0, 0, 1);
    x.of(0, 10);
    x.feed('a');
    x.feed('-');
    x.feed('l');
    x.law();
    x.later(0, 9, 0, 0);
    x.sleeps(0, 9);
    x.often(0, 9, -1);
    x.blue(0, 0);
    x.keeps(0, 5);
    x.turnings(20, -1);
    x.beds(-1);
    x.deal(50, 0);
    x.out(0, 1);
    x.where(0, 2);
    x.stays(0, 5, 0);
    x.meet(0, 5, 0);
    x.darkest(0);
    x.judge(0);
    x.howBad(0, 0);
    x.thawed(0, 0);
    x.which(0, 0);
    x.share(50, 0);
    x.drawn(1, 310, 0);
    x.day(0);
    x.fork(0, 1);
    x.letOut(0);
    x.led(0);
    x.image();
    x.back();
    x.undo();
    x.redo();
    x.body(7);
    x.act(0, 3, 5);
    x.trace(0);
    x.keep(1, 0);
    x.taken(1, 0);
    x.element(0, 0);
    x.shift(0, 0, 0, 1, 2);
    x.count(0);
  }

  /** Every call with numbers that lie at edges, in many states: none may throw. */
  private static void oddArguments() throws Exception {
    int[] odd = {Integer.MIN_VALUE, Integer.MIN_VALUE + 1, -101, -2, -1, 0, 1, 4, 5, 6, 7, 8, 9, 30, 59, 60, 61, 99, 100,
        120, 255, 999, 1000, 3060, 6000, Integer.MAX_VALUE - 1, Integer.MAX_VALUE};
    List<Method> methods = new ArrayList<>();
    for (Method m : NightLetIn.class.getDeclaredMethods()) if (Modifier.isPublic(m.getModifiers())) methods.add(m);
    methods.sort((a, b) -> a.getName().compareTo(b.getName()));
    Random random = new Random(11);
    for (int run = 0; run < 300; run++) {
      NightLetIn x = new NightLetIn();
      if (run % 3 > 0) everyCall(x);
      for (int call = 0; call < 400; call++) {
        Method m = methods.get(random.nextInt(methods.size()));
        Object[] values = new Object[m.getParameterCount()];
        for (int i = 0; i < values.length; i++) {
          int v = odd[random.nextInt(odd.length)];
          if (m.getParameterTypes()[i] == long.class) values[i] = (long) v;
          else values[i] = v;
        }
        m.invoke(x, values);
      }
    }
  }
}
