import java.util.ArrayList;
import java.util.List;

/** Promises 37 to 46: bodies, acts, the trace, shelves, counts. */
public final class ActsTest {
  public static void main(String[] args) {
    body();
    act();
    trace();
    keep();
    row();
    put();
    shift();
    taken();
    count();
    Due.end();
  }

  private static void body() {
    NightLetIn x = new NightLetIn();
    Due.is("37 kind below", NightLetIn.BAD, x.body(-1));
    Due.is("37 kind above", NightLetIn.BAD, x.body(8));
    for (int i = 0; i < 50; i++) Due.is("37 number", i, x.body(i % 8));
    Due.is("37 full", NightLetIn.FULL, x.body(0));
    Due.is("37 bad ahead of full", NightLetIn.BAD, x.body(8));
    Due.is("37 count", 50, x.count(5));
    Due.is("37 the last one acts", 4 + 49 + 3, x.act(49, 0, 4));
  }

  /** Each act of each kind, held against Java's own classes. */
  private static void act() {
    for (int v : new int[] {0, 1, 5, -7, 1 << 30, Integer.MAX_VALUE, Integer.MIN_VALUE}) actsWith(v);
    NightLetIn x = new NightLetIn();
    Due.is("38 no body yet", 0, x.act(0, 0, 5));
    for (int n = 0; n < 40; n++) x.body(n % 8);
    Due.is("38 no body", 0, x.act(-1, 0, 5));
    Due.is("38 no body", 0, x.act(40, 0, 5));
    Due.is("38 no act", 0, x.act(1, -1, 5));
    Due.is("38 no act", 0, x.act(1, 4, 5));
  }

  private static void actsWith(int v) {
    NightLetIn x = new NightLetIn();
    List<Integer> ran = new ArrayList<>();
    for (int n = 0; n < 40; n++) {
      x.body(n % 8);
      Kinds.Dark dark = Kinds.make(n % 8, n, ran);
      int[] want = {dark.lies(v), dark.turns(v), dark.goes(v), dark.tells(v)};
      for (int act = 0; act < 4; act++) Due.is("38 act " + act + " of " + n, want[act], x.act(n, act, v));
    }
  }

  private static void trace() {
    NightLetIn x = new NightLetIn();
    Due.is("39 none yet", NightLetIn.BAD, x.trace(0));
    for (int kind = 0; kind < 8; kind++) x.body(kind);
    int[][] want = {
      {2, 10, 1, 11}, {2, 10, 20, 1, 11}, {2, 30, 10, 1, 11}, {2, 41, 30, 10, 1, 40, 11},
      {50, 2, 10, 20, 1, 11}, {61, 2, 41, 30, 10, 1, 60, 40, 11, 1}, {2, 10, 70, 1, 11},
      {2, 80, 10, 81, 70, 1, 11, 11}};
    for (int kind = 0; kind < 8; kind++) {
      x.act(kind, 3, 9);
      Due.is("46 how many ran", want[kind].length, x.count(6));
      for (int i = 0; i < want[kind].length; i++) Due.is("39 kind " + kind, want[kind][i], x.trace(i));
      Due.is("39 behind the end", NightLetIn.BAD, x.trace(want[kind].length));
      Due.is("39 below", NightLetIn.BAD, x.trace(-1));
      Due.is("39 far", NightLetIn.BAD, x.trace(24));
    }
    x.act(8, 0, 1);
    Due.is("38 no trace then", 0, x.count(6));
    Due.is("38 no trace then", NightLetIn.BAD, x.trace(0));
    x.act(1, 0, 1);
    Due.is("39 of the latest", 20, x.trace(0));
    x.act(1, 4, 1);
    Due.is("38 no trace then", NightLetIn.BAD, x.trace(0));
  }

  private static void keep() {
    NightLetIn x = new NightLetIn();
    Due.is("40 no body", NightLetIn.BAD, x.keep(0, 0));
    Due.is("40 no body", NightLetIn.BAD, x.keep(0, -2));
    x.body(3);
    Due.is("40 no shelf", NightLetIn.BAD, x.keep(-1, 0));
    Due.is("40 no shelf", NightLetIn.BAD, x.keep(6, -1));
    for (int shelf = 0; shelf < 6; shelf++) Due.is("40 a body", 1, x.keep(shelf, 0));
    for (int shelf = 0; shelf < 6; shelf++) Due.is("40 is there", 3, x.taken(shelf, 3));
    Due.is("40 no such one changes nothing", NightLetIn.BAD, x.keep(5, 1));
    Due.is("40 still there", 3, x.taken(5, 0));
    Due.is("40 nothing", 1, x.keep(5, -1));
    Due.is("40 nothing", -11, x.taken(5, 0));
    Due.is("40 nothing again", 1, x.keep(5, -1));
    x.row(4, 3, 2);
    Due.is("40 a body in a row's stead", 1, x.keep(4, 0));
    Due.is("40 no row any more", -12, x.put(4, 0, 1));
    x.row(4, 3, 2);
    Due.is("40 nothing in a row's stead", 1, x.keep(4, -1));
    Due.is("40 nothing", -11, x.put(4, 0, 1));
  }

  private static void row() {
    NightLetIn x = new NightLetIn();
    Due.is("41 no shelf", NightLetIn.BAD, x.row(-1, 0, 1));
    Due.is("41 no shelf", NightLetIn.BAD, x.row(6, 0, 1));
    Due.is("41 no sort", NightLetIn.BAD, x.row(0, -1, 1));
    Due.is("41 no sort", NightLetIn.BAD, x.row(0, 5, 1));
    Due.is("41 too long", NightLetIn.BAD, x.row(0, 0, 61));
    Due.is("41 below 0", -14, x.row(0, 0, -1));
    Due.is("41 far below 0", -14, x.row(0, 4, Integer.MIN_VALUE));
    Due.is("41 bad ahead of below 0", NightLetIn.BAD, x.row(0, 5, -1));
    Due.is("41 nothing came", -11, x.put(0, 0, 1));
    for (int sort = 0; sort <= 4; sort++) {
      Due.is("41 longest", 1, x.row(sort, sort, 60));
      Due.is("41 first", 0, x.element(sort, 0));
      Due.is("41 last", 0, x.element(sort, 59));
      Due.is("41 behind it", Long.MIN_VALUE, x.element(sort, 60));
    }
    x.put(0, 3, 5);
    Due.is("41 below 0 changes nothing", -14, x.row(0, 0, -5));
    Due.is("41 as it was", 5, x.element(0, 3));
    Due.is("41 anew", 1, x.row(0, 0, 4));
    Due.is("41 0 at first", 0, x.element(0, 3));
    Due.is("41 shorter", -13, x.put(0, 4, 1));
    Due.is("41 empty", 1, x.row(0, 1, 0));
    Due.is("41 empty", -13, x.put(0, 0, 1));
    x.body(0);
    x.keep(0, 0);
    Due.is("41 in a body's stead", 1, x.row(0, 2, 1));
    Due.is("41 a row now", -12, x.taken(0, 0));
  }

  private static void put() {
    NightLetIn x = new NightLetIn();
    Due.is("42 no shelf", NightLetIn.BAD, x.put(-1, 0, 1));
    Due.is("42 no shelf", NightLetIn.BAD, x.put(6, 0, 1));
    Due.is("43 no shelf", Long.MIN_VALUE, x.element(6, 0));
    Due.is("43 no shelf", Long.MIN_VALUE, x.element(-1, 0));
    Due.is("42 nothing", -11, x.put(0, -1, 1));
    Due.is("43 nothing", Long.MIN_VALUE, x.element(0, 0));
    x.body(0);
    x.keep(0, 0);
    Due.is("42 a body", -12, x.put(0, -1, 1));
    Due.is("43 a body", Long.MIN_VALUE, x.element(0, 0));
    long[] vs = {0, 1, -1, 127, 128, 255, 256, 300, -129, 32768, 65536, 1L << 31, 1L << 32, Long.MAX_VALUE,
        Long.MIN_VALUE};
    for (int sort = 0; sort <= 4; sort++) {
      x.row(0, sort, 3);
      Due.is("42 below", -13, x.put(0, -1, 1));
      Due.is("42 above", -13, x.put(0, 3, 1));
      Due.is("43 below", Long.MIN_VALUE, x.element(0, -1));
      Due.is("43 above", Long.MIN_VALUE, x.element(0, 3));
      for (long v : vs) {
        long[] want = {(byte) v, (short) v, (int) v, v, v == 0 ? 0 : 1};
        Due.is("42 put", 1, x.put(0, 2, v));
        Due.is("43 sort " + sort + " of " + v, want[sort], x.element(0, 2));
        Due.is("43 the one beside it", 0, x.element(0, 1));
      }
    }
  }

  private static void shift() {
    NightLetIn x = new NightLetIn();
    Due.row(x, 0, 0, 1, 2, 3, 4, 5);
    Due.is("44 no shelf", NightLetIn.BAD, x.shift(-1, 0, 0, 0, 1));
    Due.is("44 no shelf", NightLetIn.BAD, x.shift(0, 0, 6, 0, 1));
    Due.is("44 nothing", -11, x.shift(0, 0, 1, 0, 1));
    Due.is("44 nothing", -11, x.shift(1, 0, 0, 0, -1));
    x.body(0);
    x.keep(2, 0);
    Due.is("44 nothing ahead of a body", -11, x.shift(2, 0, 1, 0, 1));
    Due.is("44 a body", -12, x.shift(2, 0, 0, 0, 1));
    Due.is("44 a body", -12, x.shift(0, 0, 2, 0, 1));
    Due.is("44 two bodies", -12, x.shift(2, 0, 2, 0, -1));
    x.row(1, 1, 5);
    Due.is("44 unlike sorts", -12, x.shift(0, 0, 1, 0, 1));
    Due.is("44 unlike sorts, ahead of places", -12, x.shift(0, 9, 1, 0, 1));
    x.row(1, 0, 3);
    int[][] off = {{-1, 0, 1}, {0, -1, 1}, {0, 0, -1}, {5, 0, 1}, {3, 0, 3}, {0, 3, 1}, {0, 2, 2}, {0, 0, 4}, {6, 0, 0},
        {0, 4, 0}, {1, 0, Integer.MAX_VALUE}, {Integer.MAX_VALUE, 0, 1}, {0, Integer.MAX_VALUE, Integer.MAX_VALUE},
        {Integer.MIN_VALUE, 0, 0}, {0, 0, Integer.MIN_VALUE}};
    for (int[] o : off) Due.is("44 a place that is not there", -13, x.shift(0, o[0], 1, o[1], o[2]));
    Due.is("44 nothing came", 0, x.element(1, 0));
    Due.is("44 none", 0, x.shift(0, 5, 1, 3, 0));
    Due.is("44 two", 2, x.shift(0, 3, 1, 1, 2));
    long[] there = {0, 4, 5};
    for (int i = 0; i < 3; i++) Due.is("44 came", there[i], x.element(1, i));
    Due.is("44 up in itself", 4, x.shift(0, 0, 0, 1, 4));
    long[] up = {1, 1, 2, 3, 4};
    for (int i = 0; i < 5; i++) Due.is("44 as they were before", up[i], x.element(0, i));
    Due.row(x, 0, 0, 1, 2, 3, 4, 5);
    Due.is("44 down in itself", 4, x.shift(0, 1, 0, 0, 4));
    long[] down = {2, 3, 4, 5, 5};
    for (int i = 0; i < 5; i++) Due.is("44 as they were before", down[i], x.element(0, i));
  }

  private static void taken() {
    NightLetIn x = new NightLetIn();
    Due.is("45 no shelf", NightLetIn.BAD, x.taken(-1, 0));
    Due.is("45 no shelf", NightLetIn.BAD, x.taken(6, 0));
    Due.is("45 no kind", NightLetIn.BAD, x.taken(0, -1));
    Due.is("45 no kind", NightLetIn.BAD, x.taken(0, 8));
    Due.is("45 nothing", -11, x.taken(0, 0));
    x.row(0, 0, 1);
    Due.is("45 a row", -12, x.taken(0, 0));
    for (int kind = 0; kind < 8; kind++) {
      x.keep(0, x.body(kind));
      for (int k = 0; k < 8; k++) {
        boolean under = Kinds.CLASSES.get(k).isAssignableFrom(Kinds.CLASSES.get(kind));
        Due.is("45 kind " + kind + " for " + k, under ? kind : -12, x.taken(0, k));
      }
    }
  }

  private static void count() {
    NightLetIn x = new NightLetIn();
    Due.is("46 below", NightLetIn.BAD, x.count(-1));
    Due.is("46 above", NightLetIn.BAD, x.count(7));
    x.barn(1, 1);
    for (int i = 0; i < 2; i++) x.boy(1);
    for (int i = 0; i < 3; i++) x.lamp(1, 1);
    for (int i = 0; i < 4; i++) x.feed('a');
    for (int i = 1; i <= 5; i++) x.mend(0, 7, i);
    for (int i = 0; i < 6; i++) x.body(0);
    x.act(0, 1, 1);
    int[] want = {1, 2, 3, 4, 5, 6, 2};
    for (int what = 0; what < 7; what++) Due.is("46 what " + what, want[what], x.count(what));
  }
}
