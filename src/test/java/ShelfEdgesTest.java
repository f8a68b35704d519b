/** The edges that section 5 of the document names, each sentence with a method of its own, in the document's order. */
public final class ShelfEdgesTest {
  private static final int BAD = NightLetIn.BAD, FULL = NightLetIn.FULL;
  private static final int[] OFF_SHELVES = {Integer.MIN_VALUE, -1, 6, Integer.MAX_VALUE};

  public static void main(String[] args) {
    bodyNumbers();
    kinds();
    actsThatWrap();
    itsNumber();
    noSuchBody();
    noSuchAct();
    traceOfTheLatest();
    traceRange();
    allThatRan();
    shelvesAtFirst();
    shelvesRange();
    keepNothing();
    keepNoSuchBody();
    rowRange();
    rowBelowZero();
    zeroAtFirst();
    lowestBits();
    aBoolean();
    longsWhole();
    nothingIsThere();
    anotherKind();
    placeNotThere();
    shiftEither();
    shiftNoRows();
    shiftUnlikeSorts();
    shiftPlaces();
    shiftNone();
    shiftAsBefore();
    shiftEachSort();
    takenOrUnderIt();
    takenRefusals();
    countRange();
    answersInTheirOrder();
    memoryOfItsOwn();
    fiveHundredAndTwelveCalls();
    Due.end();
  }

  private static NightLetIn bodies() {
    NightLetIn x = new NightLetIn();
    for (int kind = 0; kind < 8; kind++) x.body(kind);
    return x;
  }

  /** "BODIES 0 .. 49 are kept by call"; FULL. */
  private static void bodyNumbers() {
    NightLetIn x = new NightLetIn();
    for (int i = 0; i < 50; i++) {
      Due.is("not there yet", 0, x.act(i, 0, 5));
      Due.is("not kept yet", BAD, x.keep(0, i));
      Due.is("as they come", i, x.body(6));
    }
    Due.is("one more", FULL, x.body(6));
    Due.is("fifty stay", 50, x.count(5));
    Due.is("the last acts", 2 * (5 + 49), x.act(49, 0, 5));
    Due.is("none behind it", 0, x.act(50, 0, 5));
  }

  /** "of KINDS: 0 .. 7". */
  private static void kinds() {
    NightLetIn x = new NightLetIn();
    for (int kind : new int[] {Integer.MIN_VALUE, -1, 8, Integer.MAX_VALUE}) Due.is("kind " + kind, BAD, x.body(kind));
    Due.is("none came", 0, x.count(5));
    Due.is("the last kind", 0, x.body(7));
    Due.is("the first kind", 1, x.body(0));
    for (int i = 2; i < 50; i++) x.body(1);
    Due.is("bad ahead of full", BAD, x.body(8));
  }

  /** "ACTS with x (an int that wraps)". */
  private static void actsThatWrap() {
    NightLetIn x = bodies();
    int max = Integer.MAX_VALUE, min = Integer.MIN_VALUE;
    Due.is("1: x + n", min + 6, x.act(1, 0, max) - 3 + 6);
    Due.is("10: times 2", 2, x.act(0, 1, min + 1));
    Due.is("10: times 2", -2, x.act(0, 1, max));
    Due.is("20: and 3", min + 3, x.act(1, 0, max));
    Due.is("30: less than none", -((max + 2) * 2), x.act(2, 1, max));
    Due.is("40: times 3", (max ^ 3) * 3, x.act(3, 2, max));
    Due.is("41: x + 1", -((min + 3) * 2), x.act(3, 1, max));
    Due.is("70: times 2", (max + 6) * 2, x.act(6, 0, max));
    Due.is("2: less", min * 2 - 1, x.act(0, 3, min));
  }

  /** "n its number": that of the body that acts, not of its kind. */
  private static void itsNumber() {
    NightLetIn x = new NightLetIn();
    for (int i = 0; i < 50; i++) x.body(0);
    for (int i = 0; i < 50; i++) {
      Due.is("lies", 5 + i, x.act(i, 0, 5));
      Due.is("goes", 5 ^ i, x.act(i, 2, 5));
    }
  }

  /** "0, and no TRACE then: no such BODY". */
  private static void noSuchBody() {
    for (int body : new int[] {Integer.MIN_VALUE, -1, 8, 50, Integer.MAX_VALUE}) {
      NightLetIn x = bodies();
      x.act(0, 3, 1);
      Due.is("body " + body, 0, x.act(body, 0, 5));
      Due.is("no trace", BAD, x.trace(0));
      Due.is("none ran", 0, x.count(6));
    }
  }

  /** "0, and no TRACE then: no such .. ACT". */
  private static void noSuchAct() {
    for (int act : new int[] {Integer.MIN_VALUE, -1, 4, Integer.MAX_VALUE}) {
      NightLetIn x = bodies();
      x.act(0, 3, 1);
      Due.is("act " + act, 0, x.act(0, act, 5));
      Due.is("no trace", BAD, x.trace(0));
      Due.is("none ran", 0, x.count(6));
    }
  }

  /** "THE TRACE: numbers of the bodies that ran in the latest act(), as they began": a shorter one leaves no rest. */
  private static void traceOfTheLatest() {
    NightLetIn x = bodies();
    x.act(5, 3, 2);
    int[] want = {61, 2, 41, 30, 10, 1, 60, 40, 11, 1};
    for (int i = 0; i < want.length; i++) Due.is("place " + i, want[i], x.trace(i));
    x.act(0, 1, 2);
    Due.is("10 begins", 10, x.trace(0));
    Due.is("then 1", 1, x.trace(1));
    Due.is("and none behind", BAD, x.trace(2));
    Due.is("two ran", 2, x.count(6));
    x.body(0);
    x.keep(0, 0);
    Due.is("other calls leave it", 10, x.trace(0));
  }

  /** "THE TRACE's i-th body. BAD." The longest act runs ten bodies, far below the 24 that are kept. */
  private static void traceRange() {
    NightLetIn x = bodies();
    Due.is("no act yet", BAD, x.trace(0));
    x.act(5, 3, 2);
    for (int i : new int[] {Integer.MIN_VALUE, -1, 10, 23, 24, Integer.MAX_VALUE}) {
      Due.is("place " + i, BAD, x.trace(i));
    }
    Due.is("the last", 1, x.trace(9));
  }

  /** "6 bodies that ran in the latest act() (all, kept or not)". */
  private static void allThatRan() {
    NightLetIn x = bodies();
    Due.is("no act yet", 0, x.count(6));
    int[][] want = {{1, 2, 1, 4}, {2, 3, 1, 5}, {1, 3, 1, 5}, {1, 4, 2, 7}, {2, 3, 1, 6}, {1, 4, 4, 10}, {2, 3, 1, 5},
        {3, 6, 1, 8}};
    for (int body = 0; body < 8; body++) {
      for (int act = 0; act < 4; act++) {
        x.act(body, act, 3);
        Due.is("act " + act + " of " + body, want[body][act], x.count(6));
      }
    }
  }

  /** "SHELVES 0 .. 5 each hold nothing (at first)". */
  private static void shelvesAtFirst() {
    NightLetIn x = new NightLetIn();
    for (int shelf = 0; shelf < 6; shelf++) {
      Due.is("taken", -11, x.taken(shelf, 0));
      Due.is("put", -11, x.put(shelf, 0, 1));
      Due.is("element", Long.MIN_VALUE, x.element(shelf, 0));
    }
    for (int shelf = 0; shelf < 6; shelf++) Due.row(x, shelf, 3, shelf + 10);
    for (int shelf = 0; shelf < 6; shelf++) Due.is("each its own", shelf + 10, x.element(shelf, 0));
  }

  /** No such SHELF: BAD, as Long.MIN_VALUE by element(). */
  private static void shelvesRange() {
    NightLetIn x = bodies();
    x.row(0, 0, 2);
    for (int shelf : OFF_SHELVES) {
      Due.is("boys", BAD, x.boys(shelf, 0, 1));
      Due.is("keep", BAD, x.keep(shelf, 0));
      Due.is("keep nothing", BAD, x.keep(shelf, -1));
      Due.is("row", BAD, x.row(shelf, 0, 1));
      Due.is("put", BAD, x.put(shelf, 0, 1));
      Due.is("element", Long.MIN_VALUE, x.element(shelf, 0));
      Due.is("shift from", BAD, x.shift(shelf, 0, 0, 0, 1));
      Due.is("shift to", BAD, x.shift(0, 0, shelf, 0, 1));
      Due.is("taken", BAD, x.taken(shelf, 0));
    }
  }

  /** "A SHELF holds nothing (body -1)". */
  private static void keepNothing() {
    NightLetIn x = bodies();
    Due.is("nothing instead of nothing", 1, x.keep(0, -1));
    x.keep(0, 3);
    Due.is("nothing instead of a body", 1, x.keep(0, -1));
    Due.is("nothing is there", -11, x.taken(0, 0));
    x.row(0, 0, 4);
    Due.is("nothing instead of a row", 1, x.keep(0, -1));
    Due.is("nothing is there", -11, x.put(0, 0, 1));
    Due.is("the bodies stay", 8, x.count(5));
  }

  /** "keep: .. BAD": what the shelf holds stays. */
  private static void keepNoSuchBody() {
    NightLetIn x = bodies();
    Due.row(x, 0, 2, 77);
    x.keep(1, 4);
    for (int body : new int[] {Integer.MIN_VALUE, -2, 8, 50, Integer.MAX_VALUE}) {
      for (int shelf = 0; shelf < 3; shelf++) Due.is("body " + body, BAD, x.keep(shelf, body));
    }
    Due.is("the row stays", 77, x.element(0, 0));
    Due.is("the body stays", 4, x.taken(1, 0));
    Due.is("nothing stays", -11, x.taken(2, 0));
  }

  /** "of 0 .. 60 elements"; "BAD (sort, n above 60)": what the shelf holds stays. */
  private static void rowRange() {
    NightLetIn x = new NightLetIn();
    Due.row(x, 0, 2, 77);
    for (int sort : new int[] {Integer.MIN_VALUE, -1, 5, Integer.MAX_VALUE}) {
      Due.is("sort " + sort, BAD, x.row(0, sort, 3));
      Due.is("sort ahead of a size below 0", BAD, x.row(0, sort, -3));
    }
    for (int sort = 0; sort < 5; sort++) {
      Due.is("61", BAD, x.row(0, sort, 61));
      Due.is("far above", BAD, x.row(0, sort, Integer.MAX_VALUE));
    }
    Due.is("the row stays", 77, x.element(0, 0));
    for (int sort = 0; sort < 5; sort++) {
      Due.is("60", 1, x.row(0, sort, 60));
      Due.is("the last", 1, x.put(0, 59, 1));
      Due.is("behind the last", -13, x.put(0, 60, 1));
      Due.is("0", 1, x.row(0, sort, 0));
      Due.is("empty", -13, x.put(0, 0, 1));
    }
  }

  /** "-14 a size below 0": what the shelf holds stays. */
  private static void rowBelowZero() {
    NightLetIn x = new NightLetIn();
    Due.row(x, 0, 2, 77);
    for (int sort = 0; sort < 5; sort++) {
      Due.is("-1", -14, x.row(0, sort, -1));
      Due.is("far below", -14, x.row(0, sort, Integer.MIN_VALUE));
      Due.is("on a shelf that holds nothing", -14, x.row(1, sort, -1));
    }
    Due.is("the row stays", 77, x.element(0, 0));
    Due.is("nothing stays", -11, x.put(1, 0, 1));
  }

  /** "0 at first (false)": the places of an older row, too. */
  private static void zeroAtFirst() {
    NightLetIn x = new NightLetIn();
    for (int sort = 0; sort < 5; sort++) {
      x.row(0, sort, 60);
      for (int i = 0; i < 60; i++) {
        Due.is("sort " + sort + ", place " + i, 0, x.element(0, i));
      }
      if (sort < 2) for (int i = 0; i < 60; i++) x.put(0, i, 1);
      x.put(0, 0, 1);
      x.put(0, 59, 1);
    }
    x.row(0, 0, 1);
    Due.is("a shorter one", 0, x.element(0, 0));
    x.row(0, 0, 60);
    Due.is("a longer one", 0, x.element(0, 59));
  }

  /** "what is put in keeps its lowest bits". */
  private static void lowestBits() {
    NightLetIn x = new NightLetIn();
    put(x, 0, 127, 127);
    put(x, 0, 128, -128);
    put(x, 0, 255, -1);
    put(x, 0, 256, 0);
    put(x, 0, -129, 127);
    put(x, 0, Long.MIN_VALUE, 0);
    put(x, 0, Long.MAX_VALUE, -1);
    put(x, 1, 32767, 32767);
    put(x, 1, 32768, -32768);
    put(x, 1, 65535, -1);
    put(x, 1, 65536, 0);
    put(x, 1, -32769, 32767);
    put(x, 1, Long.MAX_VALUE, -1);
    put(x, 2, 2147483647L, 2147483647L);
    put(x, 2, 2147483648L, -2147483648L);
    put(x, 2, 4294967295L, -1);
    put(x, 2, 4294967296L, 0);
    put(x, 2, -2147483649L, 2147483647L);
    put(x, 2, Long.MAX_VALUE, -1);
  }

  private static void put(NightLetIn x, int sort, long v, long want) {
    x.row(0, sort, 3);
    Due.is("put " + v, 1, x.put(0, 1, v));
    Due.is("sort " + sort + " of " + v, want, x.element(0, 1));
    Due.is("the one ahead", 0, x.element(0, 0));
    Due.is("the one behind", 0, x.element(0, 2));
  }

  /** "(a boolean: whether it is not 0; 1 or 0)": of a long, not of its lowest bits. */
  private static void aBoolean() {
    NightLetIn x = new NightLetIn();
    put(x, 4, 0, 0);
    put(x, 4, 1, 1);
    put(x, 4, -1, 1);
    put(x, 4, 2, 1);
    put(x, 4, 256, 1);
    put(x, 4, 1L << 32, 1);
    put(x, 4, Long.MIN_VALUE, 1);
    x.row(0, 4, 1);
    x.put(0, 0, 9);
    x.put(0, 0, 0);
    Due.is("false again", 0, x.element(0, 0));
  }

  /** Longs keep all their bits, so that one may be just what element() tells as BAD. */
  private static void longsWhole() {
    NightLetIn x = new NightLetIn();
    put(x, 3, Long.MAX_VALUE, Long.MAX_VALUE);
    put(x, 3, Long.MIN_VALUE, Long.MIN_VALUE);
    put(x, 3, 1L << 32, 1L << 32);
    put(x, 3, -1, -1);
  }

  /** "-11 nothing is there where something is wanted": ahead of a place that is not there. */
  private static void nothingIsThere() {
    NightLetIn x = bodies();
    Due.is("put", -11, x.put(0, 0, 1));
    Due.is("put at no place", -11, x.put(0, -1, 1));
    Due.is("element", Long.MIN_VALUE, x.element(0, 0));
    Due.is("taken", -11, x.taken(0, 7));
    Due.is("still nothing", -11, x.taken(0, 0));
  }

  /** "-12 it is of another kind": a BODY where a ROW is wanted, a ROW where a BODY is. */
  private static void anotherKind() {
    NightLetIn x = bodies();
    x.keep(0, 2);
    Due.is("put", -12, x.put(0, 0, 1));
    Due.is("put at no place", -12, x.put(0, -1, 1));
    Due.is("element", Long.MIN_VALUE, x.element(0, 0));
    for (int sort = 0; sort < 5; sort++) {
      x.row(1, sort, 3);
      for (int k = 0; k < 8; k++) Due.is("taken", -12, x.taken(1, k));
    }
    Due.is("the body stays", 2, x.taken(0, 0));
  }

  /** "-13 a place that is not there". */
  private static void placeNotThere() {
    NightLetIn x = new NightLetIn();
    x.row(0, 3, 3);
    for (int i : new int[] {Integer.MIN_VALUE, -1, 3, 59, 60, Integer.MAX_VALUE}) {
      Due.is("put at " + i, -13, x.put(0, i, 5));
      Due.is("element at " + i, Long.MIN_VALUE, x.element(0, i));
    }
    for (int i = 0; i < 3; i++) Due.is("as it was", 0, x.element(0, i));
    Due.is("the first", 1, x.put(0, 0, 5));
    Due.is("the last", 1, x.put(0, 2, 5));
  }

  /** "shift: .. -11 (either)". */
  private static void shiftEither() {
    NightLetIn x = bodies();
    x.row(0, 0, 3);
    x.keep(1, 0);
    Due.is("from nothing", -11, x.shift(2, 0, 0, 0, 1));
    Due.is("to nothing", -11, x.shift(0, 0, 2, 0, 1));
    Due.is("from nothing to a body", -11, x.shift(2, 0, 1, 0, 1));
    Due.is("from a body to nothing", -11, x.shift(1, 0, 2, 0, 1));
    Due.is("nothing and no place", -11, x.shift(2, -1, 0, -1, -1));
    Due.is("nothing to itself", -11, x.shift(2, 0, 2, 0, 0));
  }

  /** "-12 (no ROWS". */
  private static void shiftNoRows() {
    NightLetIn x = bodies();
    x.row(0, 0, 3);
    x.keep(1, 0);
    Due.is("from a body", -12, x.shift(1, 0, 0, 0, 1));
    Due.is("to a body", -12, x.shift(0, 0, 1, 0, 1));
    Due.is("a body to itself", -12, x.shift(1, 0, 1, 0, 0));
    Due.is("a body and no place", -12, x.shift(1, -1, 0, -1, -1));
  }

  /** "or of unlike sorts)". */
  private static void shiftUnlikeSorts() {
    NightLetIn x = new NightLetIn();
    for (int a = 0; a < 5; a++) {
      for (int b = 0; b < 5; b++) {
        x.row(0, a, 3);
        x.row(1, b, 3);
        Due.is("sorts " + a + ", " + b, a == b ? 3 : -12, x.shift(0, 0, 1, 0, 3));
        Due.is("sorts " + a + ", " + b + " and no place", a == b ? -13 : -12, x.shift(0, 0, 1, 0, 4));
        Due.is("sorts " + a + ", " + b + " and none", a == b ? 0 : -12, x.shift(0, 0, 1, 0, 0));
      }
    }
  }

  /** "-13 (n below 0, too)". */
  private static void shiftPlaces() {
    NightLetIn x = new NightLetIn();
    Due.row(x, 0, 0, 1, 2, 3, 4);
    Due.row(x, 1, 0, 5, 6);
    int[][] off = {{0, 0, -1}, {0, 0, Integer.MIN_VALUE}, {-1, 0, 1}, {0, -1, 1}, {-1, 0, 0}, {0, -1, 0}, {0, 0, 3},
        {0, 1, 2}, {4, 0, 1}, {3, 0, 2}, {0, 2, 1}, {5, 0, 0}, {0, 3, 0}, {4, 2, 1}, {0, 0, Integer.MAX_VALUE},
        {1, 1, Integer.MAX_VALUE}, {Integer.MAX_VALUE, 0, 1}, {0, Integer.MAX_VALUE, 1}, {Integer.MIN_VALUE, 0, 1},
        {Integer.MAX_VALUE, Integer.MAX_VALUE, Integer.MAX_VALUE}};
    for (int[] o : off) {
      Due.is("from " + o[0] + " to " + o[1] + ": " + o[2], -13, x.shift(0, o[0], 1, o[1], o[2]));
    }
    Due.is("as it was", 5, x.element(1, 0));
    Due.is("as it was", 6, x.element(1, 1));
    Due.is("the last two to all", 2, x.shift(0, 2, 1, 0, 2));
    Due.is("came", 3, x.element(1, 0));
    Due.is("came", 4, x.element(1, 1));
    Due.is("the last to the last", 1, x.shift(1, 0, 0, 3, 1));
    Due.is("came", 3, x.element(0, 3));
    Due.is("the one ahead stays", 3, x.element(0, 2));
  }

  /** n of 0: none come, with the places just behind the ends, too. */
  private static void shiftNone() {
    NightLetIn x = new NightLetIn();
    Due.row(x, 0, 0, 1, 2);
    x.row(1, 0, 0);
    Due.is("at the ends", 0, x.shift(0, 2, 1, 0, 0));
    Due.is("at the ends", 0, x.shift(1, 0, 0, 2, 0));
    Due.is("empty ones", 0, x.shift(1, 0, 1, 0, 0));
    Due.is("one of an empty one", -13, x.shift(1, 0, 0, 0, 1));
    Due.is("one to an empty one", -13, x.shift(0, 0, 1, 0, 1));
    Due.is("as it was", 1, x.element(0, 0));
  }

  /** "(or the same) .. as they all were before". */
  private static void shiftAsBefore() {
    for (int from = 0; from <= 3; from++) {
      for (int to = 0; to <= 3; to++) {
        NightLetIn x = new NightLetIn();
        Due.row(x, 0, 2, 10, 11, 12, 13, 14, 15);
        Due.is("three", 3, x.shift(0, from, 0, to, 3));
        for (int i = 0; i < 6; i++) {
          boolean came = i >= to && i < to + 3;
          Due.is("from " + from + " to " + to + ", place " + i, 10 + (came ? i - to + from : i), x.element(0, i));
        }
      }
    }
  }

  /** Every sort comes as it is. */
  private static void shiftEachSort() {
    long[] least = {-128, -32768, Integer.MIN_VALUE, Long.MIN_VALUE, 1};
    NightLetIn x = new NightLetIn();
    for (int sort = 0; sort < 5; sort++) {
      Due.row(x, 0, sort, 0, least[sort]);
      Due.row(x, 1, sort, 1, 1, 1);
      Due.is("two", 2, x.shift(0, 0, 1, 1, 2));
      Due.is("the one ahead stays", 1, x.element(1, 0));
      Due.is("0", 0, x.element(1, 1));
      Due.is("the least", least[sort], x.element(1, 2));
      Due.is("the other stays", least[sort], x.element(0, 1));
    }
  }

  /** "taken for a BODY of KIND k (0 .. 7), or under it: its KIND". */
  private static void takenOrUnderIt() {
    NightLetIn x = bodies();
    int[] above = {-1, 0, 0, 2, 1, 3, 0, 6};
    for (int kind = 0; kind < 8; kind++) {
      x.keep(0, kind);
      for (int k = 0; k < 8; k++) {
        boolean under = false;
        for (int at = kind; at >= 0; at = above[at]) under |= at == k;
        Due.is("kind " + kind + " for " + k, under ? kind : -12, x.taken(0, k));
      }
    }
  }

  /** "BAD, -11, -12" in this order. */
  private static void takenRefusals() {
    NightLetIn x = bodies();
    x.row(1, 0, 1);
    x.keep(2, 1);
    for (int k : new int[] {Integer.MIN_VALUE, -1, 8, Integer.MAX_VALUE}) {
      for (int shelf = 0; shelf < 3; shelf++) Due.is("kind " + k, BAD, x.taken(shelf, k));
    }
    Due.is("nothing", -11, x.taken(0, 2));
    Due.is("a row", -12, x.taken(1, 2));
    Due.is("a body of another kind", -12, x.taken(2, 2));
  }

  /** "How many: 0 .. 6. BAD." */
  private static void countRange() {
    NightLetIn x = new NightLetIn();
    for (int what : new int[] {Integer.MIN_VALUE, -1, 7, Integer.MAX_VALUE}) Due.is("what " + what, BAD, x.count(what));
    for (int what = 0; what < 7; what++) Due.is("what " + what, 0, x.count(what));
  }

  /** "Answers, of several the one named first: BAD ..; NOT ..; FULL; STATE; -11 to -14". */
  private static void answersInTheirOrder() {
    NightLetIn x = new NightLetIn();
    for (int i = 0; i < 5; i++) x.barn(0, 99);
    for (int i = 0; i < 8; i++) x.boy(0);
    for (int i = 0; i < 6; i++) x.lamp(0, 0);
    for (int i = 0; i < 50; i++) x.body(0);
    for (int i = 0; i < 120; i++) x.feed('a');
    Due.is("barn: bad ahead of full", BAD, x.barn(100, 0));
    Due.is("barn: bad ahead of full", BAD, x.barn(0, 100));
    Due.is("boy: bad ahead of full", BAD, x.boy(31));
    Due.is("lamp: bad ahead of full", BAD, x.lamp(0, 20));
    Due.is("body: bad ahead of full", BAD, x.body(8));
    Due.is("feed: bad ahead of full", BAD, x.feed(256));
    Due.is("feed: bad ahead of full", BAD, x.feed(-1));
    Due.is("beds: bad ahead of state", BAD, x.beds(8));
    Due.is("fork: bad ahead of state", BAD, x.fork(5, 1));
    Due.is("boys: bad ahead of a missing row", BAD, x.boys(0, 0, 9));
    Due.is("boys: bad ahead of a missing row", BAD, x.boys(0, -1, 0));
    x.row(0, 1, 2);
    Due.is("boys: bad ahead of -12", BAD, x.boys(0, 0, 0));
    Due.is("boys: -12 ahead of none from below 0", -12, x.boys(0, -1, 1));
    Due.is("row: bad ahead of -14", BAD, x.row(0, 5, -1));
    Due.is("shift: bad ahead of -11", BAD, x.shift(1, 0, 6, 0, 0));
    Due.is("taken: bad ahead of -11", BAD, x.taken(1, 8));
  }

  /** "All memory is the class's own": two objects have nothing of one another. */
  private static void memoryOfItsOwn() {
    NightLetIn x = bodies();
    NightLetIn y = new NightLetIn();
    x.barn(0, 50);
    x.boy(3);
    x.lamp(0, 5);
    x.mend(0, 7, 3);
    x.feed('a');
    Due.row(x, 0, 0, 9);
    x.day(0);
    x.image();
    x.act(5, 3, 1);
    for (int what = 0; what < 7; what++) Due.is("count " + what, 0, y.count(what));
    for (int what = 0; what < 5; what++) Due.is("led " + what, 0, y.led(what));
    Due.is("thaw", 0, y.of(0, 7));
    Due.is("shelf", -11, y.put(0, 0, 1));
    Due.is("image", NightLetIn.STATE, y.back());
    Due.is("trace", BAD, y.trace(0));
    y.barn(1, 7);
    Due.law(y, "5");
    y.day(-1);
    Due.is("the other's law", 5, y.of(0, 0));
    x.day(-1);
    Due.is("its own law", 50 - 2 - 2, x.of(0, 0));
  }

  /** "An object is used for at most 512 calls": the last of them is answered as the first. */
  private static void fiveHundredAndTwelveCalls() {
    NightLetIn x = new NightLetIn();
    x.barn(0, 10);
    for (int call = 2; call <= 510; call += 2) {
      Due.is("call " + call, call == 2 ? 11 : 1, x.fork(0, 1));
      Due.is("call " + (call + 1), call == 2 ? 11 : 1, x.letOut(0));
    }
    Due.is("call 512", 10 + 255, x.led(4));
    NightLetIn y = new NightLetIn();
    y.barn(0, 10);
    for (int call = 2; call <= 511; call++) y.day(0);
    Due.is("call 512 of another", 510, y.led(0));
  }
}
