import java.util.ArrayList;
import java.util.Arrays;
import java.util.HashSet;
import java.util.List;
import java.util.Set;

/**
 * The document once more, written as naively as it can be (every choice tried, texts taken apart anew each day, acts
 * as real Java classes), so that ModelTest can hold the program against it.
 */
public final class NightModel {
  private static final int BAD = -1, NOT = -2, FULL = -3, STATE = -5, VOID = -2000000000;

  static final class Barn implements Cloneable {
    int cell, night, blue, latch = 1;
    Barn copy() { Barn b = new Barn(); b.cell = cell; b.night = night; b.blue = blue; b.latch = latch; return b; }
  }
  static final class Boy {
    int needs, barn = -1;
    Boy copy() { Boy b = new Boy(); b.needs = needs; b.barn = barn; return b; }
  }
  static final class Lamp { int cell, bright; }

  static final class World {
    List<Barn> barns = new ArrayList<>();
    List<Boy> boys = new ArrayList<>();
    int thaw = 0, limit = 7;
    String law = null;

    World copy() {
      World w = new World();
      for (Barn b : barns) w.barns.add(b.copy());
      for (Boy b : boys) w.boys.add(b.copy());
      w.thaw = thaw; w.limit = limit; w.law = law;
      return w;
    }
    int lying(int barn) { int n = 0; for (Boy b : boys) if (b.barn == barn) n++; return n; }
    boolean isAsleep(int boy) {
      Boy b = boys.get(boy);
      if (b.barn < 0) return false;
      Barn at = barns.get(b.barn);
      return at.blue < limit && at.night / lying(b.barn) >= b.needs;
    }
    int asleep() { int bits = 0; for (int i = 0; i < boys.size(); i++) if (isAsleep(i)) bits += 1 << i; return bits; }
    boolean all() { return Integer.bitCount(asleep()) == boys.size(); }
    void pass(int turned, int d) {
      for (int i = 0; i < barns.size(); i++) {
        Barn b = barns.get(i);
        int v = law == null ? b.night - b.latch - thaw / 3
            : LawText.value(law, new int[] {b.night, b.blue, b.latch, thaw, lying(i), d});
        b.night = v < 0 ? 0 : v > 99 ? 99 : v;
        b.blue = b.blue == 99 ? 99 : b.blue + 1;
        if (i == turned) b.blue = 0;
      }
    }
  }

  private World now = new World();
  private final List<Lamp> lamps = new ArrayList<>();
  private final StringBuilder tape = new StringBuilder();
  private final int[] ledger = new int[5];
  private int[] imageLedger;
  private List<Barn> imageBarns;
  private final List<int[]> undos = new ArrayList<>(), redos = new ArrayList<>();
  private final List<Kinds.Dark> bodies = new ArrayList<>();
  private final List<Integer> ran = new ArrayList<>();
  private final Object[] shelves = new Object[6];

  private static boolean in(int v, int lo, int hi) { return lo <= v && v <= hi; }
  private boolean isBarn(int b) { return in(b, 0, now.barns.size() - 1); }
  private boolean isBoy(int b) { return in(b, 0, now.boys.size() - 1); }

  public int barn(int xy, int night) {
    if (!in(xy, 0, 99) || !in(night, 0, 99)) return BAD;
    if (now.barns.size() == 5) return FULL;
    Barn b = new Barn(); b.cell = xy; b.night = night;
    now.barns.add(b);
    return now.barns.size() - 1;
  }
  public int boy(int needs) {
    if (!in(needs, 0, 30)) return BAD;
    if (now.boys.size() == 8) return FULL;
    Boy b = new Boy(); b.needs = needs;
    now.boys.add(b);
    return now.boys.size() - 1;
  }
  public int boys(int shelf, int i, int n) {
    if (!in(shelf, 0, 5) || !in(n, 1, 8)) return BAD;
    Object o = shelves[shelf];
    if (o == null) return 0;
    if (!(o instanceof byte[])) return -12;
    byte[] row = (byte[]) o;
    int came = 0;
    long at = i;
    while (came < n) {
      if (at < 0 || at + 1 >= row.length) break;
      int needs = row[(int) at], barn = row[(int) at + 1];
      if (!in(needs, 0, 30) || !in(barn, -1, now.barns.size() - 1)) break;
      if (now.boys.size() == 8) break;
      now.boys.get(boy(needs)).barn = barn;
      came++;
      at += 2;
    }
    return came;
  }
  public int lamp(int xy, int bright) {
    if (!in(xy, 0, 99) || !in(bright, 0, 19)) return BAD;
    if (lamps.size() == 6) return FULL;
    Lamp l = new Lamp(); l.cell = xy; l.bright = bright;
    lamps.add(l);
    return lamps.size() - 1;
  }
  private int tell(int number, int what, int v, boolean set) {
    switch (what) {
      case 0: { Barn b = now.barns.get(number); int was = b.night; if (set) b.night = v; return was; }
      case 1: { Barn b = now.barns.get(number); int was = b.blue; if (set) b.blue = v; return was; }
      case 2: { Barn b = now.barns.get(number); int was = b.latch; if (set) b.latch = v; return was; }
      case 3: { Boy b = now.boys.get(number); int was = b.needs; if (set) b.needs = v; return was; }
      case 4: { Boy b = now.boys.get(number); int was = b.barn; if (set) b.barn = v; return was; }
      case 5: { Lamp l = lamps.get(number); int was = l.cell; if (set) l.cell = v; return was; }
      case 6: { Lamp l = lamps.get(number); int was = l.bright; if (set) l.bright = v; return was; }
      case 7: { int was = now.thaw; if (set) now.thaw = v; return was; }
      default: { int was = now.limit; if (set) now.limit = v; return was; }
    }
  }
  private boolean there(int number, int what) {
    if (what < 0 || what > 8) return false;
    int many = what <= 2 ? now.barns.size() : what <= 4 ? now.boys.size() : what <= 6 ? lamps.size() : 1;
    return in(number, 0, many - 1);
  }
  public int mend(int number, int what, int v) {
    if (!there(number, what)) return VOID;
    int[] lo = {0, 0, 0, 0, -1, 0, 0, 0, 1};
    int[] hi = {99, 99, 9, 30, now.barns.size() - 1, 99, 19, 9, 20};
    if (!in(v, lo[what], hi[what])) return VOID;
    int was = tell(number, what, v, true);
    if (was != v) {
      undos.add(new int[] {number, what, was, v});
      if (undos.size() > 40) undos.remove(0);
      redos.clear();
    }
    return was;
  }
  public int of(int number, int what) {
    if (there(number, what)) return tell(number, what, 0, false);
    if (what == 9 && isBarn(number)) return now.barns.get(number).cell;
    if (what == 10 && isBarn(number)) return light(now.barns.get(number).cell, lamps);
    return VOID;
  }
  public int feed(int letter) {
    if (!in(letter, 0, 255)) return BAD;
    if (tape.length() == 120) return FULL;
    tape.append((char) letter);
    return tape.length();
  }
  public int law() {
    String text = tape.toString();
    tape.setLength(0);
    int fault = LawText.fault(text);
    if (fault >= 0) return -100 - fault;
    now.law = text;
    return 1;
  }

  private int bytesRefusal(int shelf) {
    return shelves[shelf] == null ? -11 : shelves[shelf] instanceof byte[] ? 0 : -12;
  }
  private World after(int shelf, int n) {
    World w = now.copy();
    byte[] turns = shelf < 0 ? new byte[0] : (byte[]) shelves[shelf];
    for (int d = 0; d < n; d++) w.pass(d < turns.length ? turns[d] : -1, d);
    return w;
  }
  public int later(int shelf, int n, int barn, int what) {
    if (!in(shelf, 0, 5) || !in(n, 0, 99) || !isBarn(barn) || !in(what, 0, 1)) return BAD;
    if (bytesRefusal(shelf) != 0) return bytesRefusal(shelf);
    Barn b = after(shelf, n).barns.get(barn);
    return what == 0 ? b.night : b.blue;
  }
  public int sleeps(int shelf, int n) {
    if (!in(shelf, 0, 5) || !in(n, 0, 99)) return BAD;
    if (bytesRefusal(shelf) != 0) return bytesRefusal(shelf);
    return after(shelf, n).asleep();
  }
  public int often(int shelf, int n, int boy) {
    if (!in(shelf, 0, 5) || !in(n, 0, 99) || !in(boy, -1, now.boys.size() - 1)) return BAD;
    if (bytesRefusal(shelf) != 0) return bytesRefusal(shelf);
    int times = 0;
    for (int d = 0; d < n; d++) {
      World w = after(shelf, d);
      if (boy < 0 ? w.all() : w.isAsleep(boy)) times++;
    }
    return times;
  }
  public int blue(int shelf, int barn) {
    if (!in(shelf, 0, 5) || !isBarn(barn)) return BAD;
    if (bytesRefusal(shelf) != 0) return bytesRefusal(shelf);
    for (int d = 0; d < 100; d++) if (after(shelf, d).barns.get(barn).blue >= now.limit) return d;
    return NOT;
  }
  public int keeps(int barn, int v) {
    if (!isBarn(barn) || !in(v, 0, 99)) return BAD;
    for (int d = 0; d < 100; d++) if (after(-1, d).barns.get(barn).night < v) return d;
    return NOT;
  }
  public int turnings(int n, int k) {
    if (!in(n, 0, 60) || k < -1 || k >= n) return BAD;
    int[] blue = now.barns.stream().mapToInt(b -> b.blue).toArray();
    int[] plan = new int[n];
    int turned = 0;
    for (int d = 0; d < n; d++) {
      int chosen = -1, soonest = Integer.MAX_VALUE;
      for (int i = 0; i < blue.length; i++) {
        if (blue[i] >= now.limit) return NOT;
        int firstBlue = d + now.limit - blue[i];
        if (firstBlue <= n - 1 && firstBlue < soonest) { soonest = firstBlue; chosen = i; }
      }
      plan[d] = chosen;
      if (chosen >= 0) turned++;
      for (int i = 0; i < blue.length; i++) blue[i] = i == chosen ? 0 : blue[i] + 1;
    }
    return k < 0 ? turned : plan[k] < 0 ? NOT : plan[k];
  }
  public int beds(int k) {
    if (!in(k, -1, now.boys.size() - 1)) return BAD;
    int many = now.boys.size(), barns = now.barns.size();
    if (many > 6) return STATE;
    World w = now.copy();
    int[] at = new int[many], best = at.clone();
    int most = -1;
    boolean going = true;
    while (going) {
      for (int i = 0; i < many; i++) w.boys.get(i).barn = at[i] == barns ? -1 : at[i];
      int asleep = Integer.bitCount(w.asleep());
      if (asleep > most) { most = asleep; best = at.clone(); }
      int i = many - 1;
      while (i >= 0 && at[i] == barns) at[i--] = 0;
      if (i < 0) going = false; else at[i]++;
    }
    return k < 0 ? most : best[k] == barns ? NOT : best[k];
  }
  private int[] dealBest;
  private int dealMost;
  private void dealFrom(World w, int barn, int left) {
    if (barn == w.barns.size()) {
      int asleep = Integer.bitCount(w.asleep());
      if (asleep > dealMost) {
        dealMost = asleep;
        dealBest = w.barns.stream().mapToInt(b -> b.night).toArray();
      }
      return;
    }
    // Only amounts with which one more sleeps can be least; 0 is one of them.
    Set<Integer> amounts = new HashSet<>(Arrays.asList(0));
    for (Boy b : w.boys) if (b.barn == barn) amounts.add(b.needs * w.lying(barn));
    amounts.stream().sorted().forEach(v -> {
      if (v <= left) {
        w.barns.get(barn).night = v;
        dealFrom(w, barn + 1, left - v);
      }
    });
  }
  public int deal(int v, int k) {
    if (!in(v, 0, 99) || !in(k, -1, now.barns.size() - 1)) return BAD;
    dealMost = -1;
    dealFrom(now.copy(), 0, v);
    return k < 0 ? dealMost : dealBest[k];
  }

  private static int far(int a, int b) { return Math.abs(a % 10 - b % 10) + Math.abs(a / 10 - b / 10); }
  private static int light(int cell, List<Lamp> lamps) {
    int sum = 0;
    for (Lamp l : lamps) sum += Math.max(0, l.bright - far(cell, l.cell));
    return sum;
  }
  /** Its cells hour by hour, at most 100 of them; less if it is out then. */
  private static List<Integer> way(int start, List<Lamp> lamps) {
    List<Integer> cells = new ArrayList<>(List.of(start));
    int[][] sides = {{0, -1}, {1, 0}, {0, 1}, {-1, 0}};
    while (cells.size() < 100) {
      int cell = cells.get(cells.size() - 1);
      int before = cells.size() > 1 ? cells.get(cells.size() - 2) : -5;
      int to = -9, least = 1 << 20;
      for (int[] s : sides) {
        int x = cell % 10 + s[0], y = cell / 10 + s[1];
        boolean off = x < 0 || y < 0 || x > 9 || y > 9;
        int c = off ? -1 : 10 * y + x;
        if (c == before) continue;
        int lit = off ? 0 : light(c, lamps);
        if (lit < least) { least = lit; to = c; }
      }
      if (to == -1) break;
      cells.add(to);
    }
    return cells;
  }
  private List<Integer> wayOf(int barn) { return way(now.barns.get(barn).cell, lamps); }
  public int out(int barn, int what) {
    if (!isBarn(barn) || !in(what, 0, 1)) return BAD;
    List<Integer> way = wayOf(barn);
    if (what == 1) return new HashSet<>(way).size();
    return way.size() == 100 ? NOT : way.size();
  }
  public int where(int barn, int h) {
    if (!isBarn(barn) || !in(h, 0, 99)) return BAD;
    List<Integer> way = wayOf(barn);
    return h < way.size() ? way.get(h) : NOT;
  }
  public int stays(int barn, int bright, int what) {
    if (!isBarn(barn) || !in(bright, 0, 19) || !in(what, 0, 1)) return BAD;
    int best = -1, longest = -1;
    for (int c = 0; c < 100; c++) {
      List<Lamp> more = new ArrayList<>(lamps);
      Lamp l = new Lamp(); l.cell = c; l.bright = bright;
      more.add(l);
      int size = way(now.barns.get(barn).cell, more).size();
      if (size > longest) { longest = size; best = c; }
    }
    return what == 0 ? best : longest;
  }
  public int meet(int barn, int xy, int what) {
    if (!isBarn(barn) || !in(xy, 0, 99) || !in(what, 0, 1)) return BAD;
    List<Integer> way = wayOf(barn);
    Set<Integer> reached = new HashSet<>(List.of(xy));
    for (int h = 0; h < way.size(); h++) {
      if (reached.contains(way.get(h))) return what == 0 ? h : way.get(h);
      Set<Integer> next = new HashSet<>(reached);
      for (int c : reached) {
        if (c % 10 > 0) next.add(c - 1);
        if (c % 10 < 9) next.add(c + 1);
        if (c / 10 > 0) next.add(c - 10);
        if (c / 10 < 9) next.add(c + 10);
      }
      reached = next;
    }
    return NOT;
  }
  public int darkest(int what) {
    if (!in(what, 0, 1)) return BAD;
    int least = Integer.MAX_VALUE, cell = -1;
    for (int c = 99; c >= 0; c--) if (light(c, lamps) <= least) { least = light(c, lamps); cell = c; }
    return what == 0 ? cell : least;
  }

  private int unlike(World from, byte[] slept) {
    World w = from.copy();
    for (int d = 0; d < slept.length; d++) {
      if ((byte) w.asleep() != slept[d]) return d;
      w.pass(-1, d);
    }
    return -1;
  }
  public int judge(int shelf) {
    if (!in(shelf, 0, 5)) return BAD;
    if (bytesRefusal(shelf) != 0) return bytesRefusal(shelf);
    int d = unlike(now, (byte[]) shelves[shelf]);
    return d < 0 ? NOT : d;
  }
  public int howBad(int shelf, int barn) {
    if (!in(shelf, 0, 5) || !isBarn(barn)) return BAD;
    if (bytesRefusal(shelf) != 0) return bytesRefusal(shelf);
    for (int l = 0; l < 10; l++) {
      World w = now.copy();
      w.barns.get(barn).latch = l;
      if (unlike(w, (byte[]) shelves[shelf]) < 0) return l;
    }
    return NOT;
  }
  public int thawed(int shelf, int what) {
    if (!in(shelf, 0, 5) || !in(what, 0, 1)) return BAD;
    if (bytesRefusal(shelf) != 0) return bytesRefusal(shelf);
    List<Integer> fit = new ArrayList<>();
    for (int t = 0; t < 10; t++) {
      World w = now.copy();
      w.thaw = t;
      if (unlike(w, (byte[]) shelves[shelf]) < 0) fit.add(t);
    }
    return what == 0 ? fit.size() : fit.isEmpty() ? NOT : fit.get(0);
  }
  public int which(int shelf, int boy) {
    if (!in(shelf, 0, 5) || !isBoy(boy)) return BAD;
    if (bytesRefusal(shelf) != 0) return bytesRefusal(shelf);
    int bits = 0;
    for (int b = -1; b < now.barns.size(); b++) {
      World w = now.copy();
      w.boys.get(boy).barn = b;
      if (unlike(w, (byte[]) shelves[shelf]) < 0) bits += 1 << (b < 0 ? 5 : b);
    }
    return bits;
  }
  public int share(int v, int barn) {
    if (!in(v, 0, 999) || !isBarn(barn)) return BAD;
    int many = now.barns.size();
    int[] needs = new int[many], gets = new int[many];
    for (Boy b : now.boys) if (b.barn >= 0) needs[b.barn] += b.needs;
    if (Arrays.stream(needs).sum() == 0) Arrays.fill(needs, 1);
    int all = Arrays.stream(needs).sum(), left = v;
    for (int i = 0; i < many; i++) { gets[i] = v * needs[i] / all; left -= gets[i]; }
    for (int i = 0; left > 0; i = (i + 1) % many, left--) gets[i]++;
    return gets[barn];
  }
  public int drawn(int seed, int nm, int what) {
    if (nm < 0 || !in(nm / 100, 1, 30) || !in(nm % 100, 1, 60) || !in(what, 0, 1)) return BAD;
    int z = seed, days = 0, blue = 0;
    for (int n = 0; n < nm / 100; n++) {
      World w = now.copy();
      for (int d = 0; d < nm % 100; d++) {
        z = z * 1103515245 + 12345;
        if (w.all()) days++;
        w.pass((z >>> 8) % 8, d);
      }
      for (Barn b : w.barns) if (b.blue >= w.limit) blue++;
    }
    return what == 0 ? days : blue;
  }

  public int day(int barn) {
    if (!in(barn, -1, 4)) return BAD;
    int who = now.asleep();
    now.pass(barn, 0);
    ledger[0]++;
    ledger[1] += Integer.bitCount(who);
    if (isBarn(barn)) ledger[2]++;
    return who;
  }
  public int fork(int barn, int v) {
    if (!isBarn(barn) || !in(v, 1, 99)) return BAD;
    Barn b = now.barns.get(barn);
    if (b.night + v > 99) return STATE;
    ledger[3] += v;
    return b.night += v;
  }
  public int letOut(int barn) {
    if (!isBarn(barn)) return BAD;
    Barn b = now.barns.get(barn);
    int had = b.night;
    b.night = 0;
    ledger[4] += had;
    return had;
  }
  public int led(int what) { return in(what, 0, 4) ? ledger[what] : BAD; }
  public int image() {
    imageLedger = ledger.clone();
    imageBarns = now.copy().barns;
    return ledger[0];
  }
  public int back() {
    if (imageLedger == null) return STATE;
    System.arraycopy(imageLedger, 0, ledger, 0, 5);
    for (int i = 0; i < now.barns.size(); i++) {
      now.barns.get(i).blue = 0;
      if (i < imageBarns.size()) {
        now.barns.get(i).night = imageBarns.get(i).night;
        now.barns.get(i).blue = imageBarns.get(i).blue;
      }
    }
    return ledger[0];
  }
  public int undo() {
    if (undos.isEmpty()) return STATE;
    int[] c = undos.remove(undos.size() - 1);
    redos.add(c);
    tell(c[0], c[1], c[2], true);
    return undos.size();
  }
  public int redo() {
    if (redos.isEmpty()) return STATE;
    int[] c = redos.remove(redos.size() - 1);
    undos.add(c);
    tell(c[0], c[1], c[3], true);
    return redos.size();
  }

  public int body(int kind) {
    if (!in(kind, 0, 7)) return BAD;
    if (bodies.size() == 50) return FULL;
    bodies.add(Kinds.make(kind, bodies.size(), ran));
    return bodies.size() - 1;
  }
  public int act(int body, int act, int x) {
    ran.clear();
    if (!in(body, 0, bodies.size() - 1) || !in(act, 0, 3)) return 0;
    Kinds.Dark d = bodies.get(body);
    return act == 0 ? d.lies(x) : act == 1 ? d.turns(x) : act == 2 ? d.goes(x) : d.tells(x);
  }
  public int trace(int i) { return in(i, 0, Math.min(24, ran.size()) - 1) ? ran.get(i) : BAD; }
  public int keep(int shelf, int body) {
    if (!in(shelf, 0, 5) || !in(body, -1, bodies.size() - 1)) return BAD;
    shelves[shelf] = body < 0 ? null : bodies.get(body);
    return 1;
  }
  public int row(int shelf, int sort, int n) {
    if (!in(shelf, 0, 5) || !in(sort, 0, 4) || n > 60) return BAD;
    if (n < 0) return -14;
    shelves[shelf] = sort == 0 ? new byte[n] : sort == 1 ? new short[n] : sort == 2 ? new int[n]
        : sort == 3 ? new long[n] : new boolean[n];
    return 1;
  }
  public int put(int shelf, int i, long v) {
    if (!in(shelf, 0, 5)) return BAD;
    Object o = shelves[shelf];
    if (o == null) return -11;
    if (o instanceof Kinds.Dark) return -12;
    if (!in(i, 0, java.lang.reflect.Array.getLength(o) - 1)) return -13;
    if (o instanceof byte[]) ((byte[]) o)[i] = (byte) v;
    if (o instanceof short[]) ((short[]) o)[i] = (short) v;
    if (o instanceof int[]) ((int[]) o)[i] = (int) v;
    if (o instanceof long[]) ((long[]) o)[i] = v;
    if (o instanceof boolean[]) ((boolean[]) o)[i] = v != 0;
    return 1;
  }
  public long element(int shelf, int i) {
    if (!in(shelf, 0, 5)) return Long.MIN_VALUE;
    Object o = shelves[shelf];
    if (o == null || o instanceof Kinds.Dark) return Long.MIN_VALUE;
    if (!in(i, 0, java.lang.reflect.Array.getLength(o) - 1)) return Long.MIN_VALUE;
    if (o instanceof boolean[]) return ((boolean[]) o)[i] ? 1 : 0;
    return ((Number) java.lang.reflect.Array.get(o, i)).longValue();
  }
  public int shift(int shelf, int i, int other, int j, int n) {
    if (!in(shelf, 0, 5) || !in(other, 0, 5)) return BAD;
    Object a = shelves[shelf], b = shelves[other];
    if (a == null || b == null) return -11;
    try {
      System.arraycopy(a, i, b, j, n);
    } catch (ArrayStoreException e) {
      return -12;
    } catch (IndexOutOfBoundsException e) {
      return -13;
    }
    return n;
  }
  public int taken(int shelf, int k) {
    if (!in(shelf, 0, 5) || !in(k, 0, 7)) return BAD;
    Object o = shelves[shelf];
    if (o == null) return -11;
    return Kinds.CLASSES.get(k).isInstance(o) ? Kinds.CLASSES.indexOf(o.getClass()) : -12;
  }
  public int count(int what) {
    int[] counts = {now.barns.size(), now.boys.size(), lamps.size(), tape.length(), undos.size(), bodies.size(),
        ran.size()};
    return in(what, 0, 6) ? counts[what] : BAD;
  }
}
