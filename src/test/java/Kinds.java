import java.util.List;

/** The kinds of the document as real classes and interfaces, so that Java itself finds the body of an act. */
final class Kinds {
  interface Lies {
    int n();
    void begin(int body);
    default int lies(int x) { begin(1); return x + n(); }
  }
  interface Tells {
    int turns(int x);
    int goes(int x);
    void begin(int body);
    default int tells(int x) { begin(2); return turns(x) - goes(1); }
  }
  static class Dark implements Lies, Tells {
    private final int n;
    private final List<Integer> ran;
    Dark(int n, List<Integer> ran) { this.n = n; this.ran = ran; }
    public int n() { return n; }
    public void begin(int body) { ran.add(body); }
    public int turns(int x) { begin(10); return lies(x) * 2; }
    public int goes(int x) { begin(11); return x ^ n; }
  }
  static class Dust extends Dark {
    Dust(int n, List<Integer> ran) { super(n, ran); }
    public int lies(int x) { begin(20); return super.lies(x) + 3; }
  }
  static class Star extends Dark {
    Star(int n, List<Integer> ran) { super(n, ran); }
    public int turns(int x) { begin(30); return -super.turns(x); }
  }
  static class Cow extends Star {
    Cow(int n, List<Integer> ran) { super(n, ran); }
    public int goes(int x) { begin(40); return super.goes(x) * 3; }
    public int turns(int x) { begin(41); return super.turns(x + 1); }
  }
  static class Pump extends Dust {
    Pump(int n, List<Integer> ran) { super(n, ran); }
    public int tells(int x) { begin(50); return super.tells(x) ^ 5; }
  }
  static class Hen extends Cow {
    Hen(int n, List<Integer> ran) { super(n, ran); }
    public int goes(int x) { begin(60); return super.goes(x) - lies(2); }
    public int tells(int x) { begin(61); return super.tells(x) + 1; }
  }
  static class Latch extends Dark {
    Latch(int n, List<Integer> ran) { super(n, ran); }
    public int lies(int x) { begin(70); return super.lies(x) * 2; }
  }
  static class Thaw extends Latch {
    Thaw(int n, List<Integer> ran) { super(n, ran); }
    public int turns(int x) { begin(80); return super.turns(x) + goes(2); }
    public int lies(int x) { begin(81); return super.lies(x) - 1; }
  }

  static final List<Class<?>> CLASSES = List.of(Dark.class, Dust.class, Star.class, Cow.class, Pump.class, Hen.class,
      Latch.class, Thaw.class);

  static Dark make(int kind, int n, List<Integer> ran) {
    switch (kind) {
      case 0: return new Dark(n, ran);
      case 1: return new Dust(n, ran);
      case 2: return new Star(n, ran);
      case 3: return new Cow(n, ran);
      case 4: return new Pump(n, ran);
      case 5: return new Hen(n, ran);
      case 6: return new Latch(n, ran);
      default: return new Thaw(n, ran);
    }
  }

  private Kinds() { }
}
