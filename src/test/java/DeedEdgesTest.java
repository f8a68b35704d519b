/** The edges that section 4 of the document names, each sentence with a method of its own, in the document's order. */
public final class DeedEdgesTest {
  private static final int BAD = NightLetIn.BAD, NOT = NightLetIn.NOT, STATE = NightLetIn.STATE, VOID = NightLetIn.VOID;

  public static void main(String[] args) {
    shelvesOfWhoSlept();
    refusalsInTheirOrder();
    emptyRowsAreSo();
    bitsAsAByte();
    firstDayNotSo();
    withoutTurns();
    leastLatch();
    anotherLatch();
    thawsThatMakeItSo();
    barnsThatMakeItSo();
    sharesRange();
    sharesAlike();
    sharesCut();
    sharesLeftFromBarnZero();
    sharesOfWhoLiesThere();
    drawnRange();
    drawnWhat();
    drawnGoesOnByWinters();
    drawnOneNotThere();
    drawnAllSleep();
    drawnFromNow();
    dayOfABarn();
    forkRange();
    forkMoreThanNinetyNine();
    letOutAll();
    ledEach();
    noImage();
    imageKeeps();
    barnsThatCameSince();
    imageOfFive();
    imageAgain();
    undoNone();
    redoNone();
    tellingTheSame();
    refusedIsNoChange();
    latestFirst();
    anotherCameBehind();
    fortyAreKept();
    deedsAreNone();
    Due.end();
  }

  /** Barns with 24 and 12, a boy who needs 10 and one who needs 12 in the first, one who needs 11 in the second. */
  private static NightLetIn land() {
    NightLetIn x = new NightLetIn();
    x.barn(0, 24);
    x.barn(1, 12);
    Due.boyIn(x, 10, 0);
    Due.boyIn(x, 12, 0);
    Due.boyIn(x, 11, 1);
    return x;
  }

  /** "(a ROW of bytes on a SHELF; BAD, -11, -12)". */
  private static void shelvesOfWhoSlept() {
    NightLetIn x = land();
    for (int shelf : new int[] {Integer.MIN_VALUE, -1, 6, Integer.MAX_VALUE}) rowAnswer(x, shelf, BAD);
    rowAnswer(x, 5, -11);
    x.body(0);
    x.keep(5, 0);
    rowAnswer(x, 5, -12);
    for (int sort = 1; sort <= 4; sort++) {
      x.row(5, sort, 1);
      rowAnswer(x, 5, -12);
    }
    x.keep(5, -1);
    rowAnswer(x, 5, -11);
  }

  private static void rowAnswer(NightLetIn x, int shelf, int want) {
    Due.is("judge by shelf " + shelf, want, x.judge(shelf));
    Due.is("howBad by shelf " + shelf, want, x.howBad(shelf, 0));
    Due.is("thawed by shelf " + shelf, want, x.thawed(shelf, 0));
    Due.is("thawed by shelf " + shelf, want, x.thawed(shelf, 1));
    Due.is("which by shelf " + shelf, want, x.which(shelf, 0));
  }

  /** "of several the one named first": BAD ahead of -11 and -12. */
  private static void refusalsInTheirOrder() {
    NightLetIn x = land();
    x.row(4, 1, 1);
    for (int shelf = 4; shelf <= 5; shelf++) {
      for (int barn : new int[] {-1, 2, 5}) Due.is("howBad of barn " + barn, BAD, x.howBad(shelf, barn));
      for (int what : new int[] {-1, 2}) Due.is("thawed, what " + what, BAD, x.thawed(shelf, what));
      for (int boy : new int[] {-1, 3, 8}) Due.is("which of boy " + boy, BAD, x.which(shelf, boy));
    }
  }

  /** A row without days tells of none: all is so. */
  private static void emptyRowsAreSo() {
    NightLetIn x = land();
    x.row(0, 0, 0);
    Due.is("judge", NOT, x.judge(0));
    Due.is("howBad", 0, x.howBad(0, 0));
    Due.is("thawed, how many", 10, x.thawed(0, 0));
    Due.is("thawed, the least", 0, x.thawed(0, 1));
    Due.is("which: two that are there, or none", 32 + 2 + 1, x.which(0, 0));
  }

  /** "who SLEPT (bits as a byte's)": eight boys are byte -1, the eighth alone -128. */
  private static void bitsAsAByte() {
    NightLetIn x = new NightLetIn();
    x.barn(0, 99);
    for (int boy = 0; boy < 8; boy++) Due.boyIn(x, boy == 7 ? 12 : 0, 0);
    Due.row(x, 0, 0, -1);
    Due.is("all eight", NOT, x.judge(0));
    Due.row(x, 0, 0, 255);
    Due.is("put as 255", NOT, x.judge(0));
    Due.row(x, 0, 0, 127);
    Due.is("the eighth slept", 0, x.judge(0));
    for (int boy = 0; boy < 7; boy++) x.mend(boy, 3, 30);
    Due.row(x, 0, 0, -128);
    Due.is("the eighth alone", NOT, x.judge(0));
    Due.is("the eighth alone: in the barn", 1, x.which(0, 7));
    x.mend(7, 3, 30);
    Due.is("nobody", 0, x.judge(0));
    Due.row(x, 0, 0, 0);
    Due.is("nobody", NOT, x.judge(0));
  }

  /** "the first day that is not so; NOT". */
  private static void firstDayNotSo() {
    NightLetIn x = land();
    Due.row(x, 0, 0, 7, 5, 1, 1, 1);
    Due.is("all so", NOT, x.judge(0));
    for (int day = 4; day >= 0; day--) {
      x.put(0, day, 2);
      Due.is("day " + day + " and some behind it", day, x.judge(0));
    }
    x.row(0, 0, 60);
    x.mend(0, 1, 7);
    x.mend(1, 1, 7);
    Due.is("sixty days as told", NOT, x.judge(0));
    x.put(0, 59, 1);
    Due.is("the last of sixty", 59, x.judge(0));
  }

  /** "(without TURNS)": rows tell who slept alone, and none is turned. */
  private static void withoutTurns() {
    NightLetIn x = new NightLetIn();
    x.barn(0, 99);
    Due.boyIn(x, 0, 0);
    x.row(0, 0, 8);
    for (int day = 0; day < 7; day++) x.put(0, day, 1);
    Due.is("blue as day 7 begins", NOT, x.judge(0));
    x.put(0, 7, 1);
    Due.is("blue as day 7 begins", 7, x.judge(0));
  }

  /** "the least LATCH (0 .. 9) of a BARN by which all is so; NOT". */
  private static void leastLatch() {
    NightLetIn x = new NightLetIn();
    x.barn(0, 20);
    Due.boyIn(x, 20, 0);
    Due.row(x, 0, 0, 1, 1);
    Due.is("just 0", 0, x.howBad(0, 0));
    Due.row(x, 0, 0, 1, 0);
    Due.is("1 or more", 1, x.howBad(0, 0));
    x.mend(0, 3, 12);
    Due.is("9 alone", 9, x.howBad(0, 0));
    x.mend(0, 3, 11);
    Due.is("10 would be", NOT, x.howBad(0, 0));
    x.mend(0, 2, 9);
    Due.row(x, 0, 0, 1, 1);
    Due.is("not as it is, but the least", 0, x.howBad(0, 0));
    Due.is("it is as it was", 9, x.of(0, 2));
  }

  /** Every other barn has the LATCH that it has. */
  private static void anotherLatch() {
    NightLetIn x = new NightLetIn();
    x.barn(0, 20);
    x.barn(1, 20);
    Due.boyIn(x, 20, 0);
    Due.boyIn(x, 18, 1);
    x.mend(0, 2, 0);
    x.mend(1, 2, 3);
    Due.row(x, 0, 0, 3, 1);
    Due.is("by the first", 0, x.howBad(0, 0));
    Due.is("by the second", 3, x.howBad(0, 1));
    x.mend(1, 2, 2);
    Due.is("never by the first", NOT, x.howBad(0, 0));
    Due.is("by the second", 3, x.howBad(0, 1));
  }

  /** "how many THAW (0 .. 9) make all so; the least (NOT)". */
  private static void thawsThatMakeItSo() {
    NightLetIn x = new NightLetIn();
    x.barn(0, 20);
    Due.boyIn(x, 18, 0);
    x.mend(0, 2, 0);
    Due.row(x, 0, 0, 1, 1);
    thaws(x, "0 to 8", 9, 0);
    Due.row(x, 0, 0, 1, 0);
    thaws(x, "9 alone", 1, 9);
    Due.row(x, 0, 0, 0);
    thaws(x, "none", 0, NOT);
    Due.row(x, 0, 0, 1);
    thaws(x, "all", 10, 0);
    x.mend(0, 7, 9);
    Due.row(x, 0, 0, 1, 1, 0);
    thaws(x, "6 to 8, whatever it is now", 3, 6);
    Due.law(x, "t=4?18;t=7?18;17");
    Due.row(x, 0, 0, 1, 1);
    thaws(x, "two that are no neighbours", 2, 4);
    Due.is("it is as it was", 9, x.of(0, 7));
  }

  private static void thaws(NightLetIn x, String name, int many, int least) {
    Due.is("how many: " + name, many, x.thawed(0, 0));
    Due.is("the least: " + name, least, x.thawed(0, 1));
  }

  /** "in which BARNS (bits) a told BOY must have lain (one that is there, or bit 5: none)". */
  private static void barnsThatMakeItSo() {
    NightLetIn x = new NightLetIn();
    x.boy(0);
    Due.row(x, 0, 0, 0);
    Due.is("no barns: none", 32, x.which(0, 0));
    Due.row(x, 0, 0, 1);
    Due.is("no barns: nowhere", 0, x.which(0, 0));
    for (int barn = 0; barn < 5; barn++) {
      x.barn(barn, 5);
      Due.is("those that are there", (1 << (barn + 1)) - 1, x.which(0, 0));
    }
    x.mend(2, 1, 7);
    Due.is("not the blue one", 1 + 2 + 8 + 16, x.which(0, 0));
    Due.row(x, 0, 0, 0);
    Due.is("the blue one or none", 4 + 32, x.which(0, 0));
    Due.is("he lies as he did", -1, x.of(0, 4));
  }

  /** "v of NIGHT (0 .. 999)". */
  private static void sharesRange() {
    NightLetIn x = land();
    for (int v : new int[] {Integer.MIN_VALUE, -1, 1000, Integer.MAX_VALUE}) Due.is("v " + v, BAD, x.share(v, 0));
    for (int barn : new int[] {-1, 2, 5}) Due.is("barn " + barn, BAD, x.share(5, barn));
    Due.is("0", 0, x.share(0, 0));
    Due.is("22 of 33 of 999", 666, x.share(999, 0));
    Due.is("11 of 33 of 999", 333, x.share(999, 1));
  }

  /** "(all 0: alike)". */
  private static void sharesAlike() {
    NightLetIn x = new NightLetIn();
    for (int barn = 0; barn < 5; barn++) x.barn(barn, 0);
    for (int barn = 0; barn < 5; barn++) Due.is("13 by five", barn < 3 ? 3 : 2, x.share(13, barn));
    for (int boy = 0; boy < 8; boy++) Due.boyIn(x, 0, boy % 2);
    for (int barn = 0; barn < 5; barn++) Due.is("nobody needs any", barn < 3 ? 3 : 2, x.share(13, barn));
    Due.is("4 by five", 1, x.share(4, 3));
    Due.is("4 by five", 0, x.share(4, 4));
    NightLetIn y = new NightLetIn();
    y.barn(0, 0);
    Due.is("one alone", 999, y.share(999, 0));
    y.barn(1, 0);
    Due.boyIn(y, 1, 1);
    Due.is("1 is not 0: he alone needs any", 999, y.share(999, 1));
    Due.is("1 is not 0: nobody needs any", 0, y.share(999, 0));
  }

  /** "each v times its NEEDS by all together (cut)". */
  private static void sharesCut() {
    NightLetIn x = new NightLetIn();
    x.barn(0, 0);
    x.barn(1, 0);
    x.barn(2, 0);
    Due.boyIn(x, 2, 1);
    Due.boyIn(x, 1, 2);
    Due.is("100 times 2 by 3 is 66", 66, x.share(100, 1));
    Due.is("100 times 1 by 3 is 33", 33, x.share(100, 2));
    Due.is("one is left, for barn 0, though nobody lies there", 1, x.share(100, 0));
    Due.is("99 leave none", 0, x.share(99, 0));
    for (int boy = 2; boy < 8; boy++) Due.boyIn(x, 30, 0);
    Due.is("999 times 180 by 183", 982 + 1, x.share(999, 0));
    Due.is("999 times 2 by 183", 10 + 1, x.share(999, 1));
    Due.is("999 times 1 by 183", 5, x.share(999, 2));
  }

  /** "what is left one each from BARN 0 on". */
  private static void sharesLeftFromBarnZero() {
    NightLetIn x = new NightLetIn();
    for (int barn = 0; barn < 5; barn++) {
      x.barn(barn, 0);
      Due.boyIn(x, 1, barn);
    }
    for (int left = 0; left < 5; left++) {
      for (int barn = 0; barn < 5; barn++) {
        Due.is("left " + left, 20 + (barn < left ? 1 : 0), x.share(100 + left, barn));
      }
    }
  }

  /** "by all NEEDS of who lie there": of eight boys, the first and the last, too; not of who lies in none. */
  private static void sharesOfWhoLiesThere() {
    NightLetIn x = new NightLetIn();
    x.barn(0, 0);
    x.barn(1, 0);
    Due.boyIn(x, 7, 0);
    for (int boy = 1; boy < 7; boy++) x.boy(30);
    Due.boyIn(x, 3, 1);
    Due.is("7 of 10", 70, x.share(100, 0));
    Due.is("3 of 10", 30, x.share(100, 1));
    x.mend(7, 4, -1);
    Due.is("7 of 7", 100, x.share(100, 0));
    Due.is("none", 0, x.share(100, 1));
  }

  /** "n winters (1 .. 30) of m days (1 .. 60)" (100 n and m). */
  private static void drawnRange() {
    NightLetIn x = new NightLetIn();
    int[] bad = {Integer.MIN_VALUE, -101, -100, -1, 0, 1, 60, 100, 161, 199, 3000, 3061, 3100, 3101, 3160,
        Integer.MAX_VALUE};
    for (int nm : bad) {
      Due.is("nm " + nm, BAD, x.drawn(1, nm, 0));
      Due.is("nm " + nm, BAD, x.drawn(1, nm, 1));
    }
    Due.is("one of one", 1, x.drawn(1, 101, 0));
    Due.is("one of sixty", 60, x.drawn(1, 160, 0));
    Due.is("thirty of one", 30, x.drawn(1, 3001, 0));
    Due.is("thirty of sixty", 1800, x.drawn(1, 3060, 0));
  }

  /** "days (what 0), BARNS (1). BAD". */
  private static void drawnWhat() {
    NightLetIn x = land();
    for (int what : new int[] {Integer.MIN_VALUE, -1, 2, Integer.MAX_VALUE}) {
      Due.is("what " + what, BAD, x.drawn(1, 101, what));
    }
    x.mend(0, 8, 1);
    x.mend(0, 1, 5);
    x.mend(1, 1, 5);
    Due.is("no day on which all sleep", 0, x.drawn(1, 105, 0));
    Due.is("one or both of the barns", 1, x.drawn(1, 101, 1) >= 1 ? 1 : 0);
  }

  /** "z = .. (an int; SEED at first) ahead of each day": the second winter is drawn behind the first. */
  private static void drawnGoesOnByWinters() {
    for (int seed : new int[] {0, 1, -1, 7, Integer.MIN_VALUE, Integer.MAX_VALUE, 123456789}) {
      int z = seed, want = 0;
      for (int winter = 0; winter < 30; winter++) {
        int turned = -1;
        for (int day = 0; day < 3; day++) {
          z = z * 1103515245 + 12345;
          turned = (z >>> 8) % 8;
        }
        want += turned < 5 ? 4 : 5;
      }
      NightLetIn x = new NightLetIn();
      for (int barn = 0; barn < 5; barn++) x.barn(barn, 0);
      x.mend(0, 8, 1);
      Due.is("all but the one that is turned last, seed " + seed, want, x.drawn(seed, 3003, 1));
    }
  }

  /** "(one not there: none)". */
  private static void drawnOneNotThere() {
    NightLetIn x = new NightLetIn();
    x.barn(0, 0);
    x.barn(1, 0);
    x.mend(0, 8, 1);
    int[] seen = new int[3];
    for (int seed = 0; seed < 40; seed++) {
      int turned = ((seed * 1103515245 + 12345) >>> 8) % 8;
      seen[turned < 2 ? turned : 2]++;
      Due.is("seed " + seed, turned < 2 ? 1 : 2, x.drawn(seed, 101, 1));
    }
    Due.is("each came up", 1, seen[0] > 0 && seen[1] > 0 && seen[2] > 0 ? 1 : 0);
  }

  /** "on how many days all SLEEP": as each day begins, the first as it is now. */
  private static void drawnAllSleep() {
    NightLetIn x = new NightLetIn();
    x.barn(0, 12);
    Due.boyIn(x, 10, 0);
    Due.is("12, 11, 10 of ten days, in four winters", 12, x.drawn(5, 410, 0));
    x.boy(0);
    Due.is("one lies in none", 0, x.drawn(5, 410, 0));
    x.mend(1, 4, 0);
    Due.is("12 by two", 0, x.drawn(5, 410, 0));
    x.mend(0, 3, 6);
    Due.is("just one day each", 4, x.drawn(5, 410, 0));
  }

  /** "n winters .. from now": each begins as it is now, with no days passed in thought. */
  private static void drawnFromNow() {
    NightLetIn x = new NightLetIn();
    x.barn(0, 20);
    Due.boyIn(x, 20, 0);
    x.mend(0, 8, 20);
    Due.law(x, "d=0?5;20");
    Due.is("all but the second day of each", 3 * 4, x.drawn(9, 305, 0));
    Due.is("as it was", 20, x.of(0, 0));
    Due.is("as it was", 0, x.of(0, 1));
    Due.is("no day passed", 0, x.led(0));
  }

  /** "A DAY with a TURN of a BARN (-1 .. 4; one not there, -1: none)". */
  private static void dayOfABarn() {
    NightLetIn x = land();
    for (int barn : new int[] {Integer.MIN_VALUE, -2, 5, Integer.MAX_VALUE}) Due.is("barn " + barn, BAD, x.day(barn));
    Due.is("no day passed", 0, x.led(0));
    Due.is("none", 7, x.day(-1));
    Due.is("none is turned", 2, x.of(0, 1) + x.of(1, 1));
    for (int barn = 2; barn < 5; barn++) x.day(barn);
    Due.is("none is turned by one not there", 8, x.of(0, 1) + x.of(1, 1));
    Due.is("nor led", 0, x.led(2));
    x.day(1);
    Due.is("the last that is there", 0, x.of(1, 1));
    x.day(0);
    Due.is("the first", 0, x.of(0, 1));
    Due.is("led", 2, x.led(2));
    Due.is("days", 6, x.led(0));
  }

  /** "FORK v (1 .. 99) more into a BARN: .. BAD". */
  private static void forkRange() {
    NightLetIn x = land();
    for (int v : new int[] {Integer.MIN_VALUE, -1, 0, 100, Integer.MAX_VALUE}) Due.is("v " + v, BAD, x.fork(0, v));
    for (int barn : new int[] {-1, 2, 5}) Due.is("barn " + barn, BAD, x.fork(barn, 1));
    Due.is("1", 25, x.fork(0, 1));
    x.letOut(0);
    Due.is("99", 99, x.fork(0, 99));
  }

  /** "STATE: it would be more than 99". */
  private static void forkMoreThanNinetyNine() {
    NightLetIn x = land();
    Due.is("24 and 76", STATE, x.fork(0, 76));
    Due.is("24 and 99", STATE, x.fork(0, 99));
    Due.is("as it was", 24, x.of(0, 0));
    Due.is("not led", 0, x.led(3));
    Due.is("24 and 75", 99, x.fork(0, 75));
    Due.is("99 and 1", STATE, x.fork(0, 1));
    Due.is("led", 75, x.led(3));
    Due.is("bad ahead of state", BAD, x.fork(0, 100));
  }

  /** "LET OUT all of one (NIGHT 0)". */
  private static void letOutAll() {
    NightLetIn x = land();
    for (int barn : new int[] {Integer.MIN_VALUE, -1, 2, Integer.MAX_VALUE}) {
      Due.is("barn " + barn, BAD, x.letOut(barn));
    }
    Due.is("all", 24, x.letOut(0));
    Due.is("none is left", 0, x.of(0, 0));
    Due.is("none to let out", 0, x.letOut(0));
    Due.is("the other has its own", 12, x.of(1, 0));
    Due.is("led", 24, x.led(4));
    x.day(-1);
    Due.is("blue goes on", 1, x.of(0, 1));
  }

  /** "LED: days, sleeps (one each), TURNS of those there, NIGHT forked in, let out". */
  private static void ledEach() {
    NightLetIn x = land();
    for (int what : new int[] {Integer.MIN_VALUE, -1, 5, Integer.MAX_VALUE}) Due.is("what " + what, BAD, x.led(what));
    for (int what = 0; what < 5; what++) Due.is("0 at first", 0, x.led(what));
    x.day(0);
    int[] day = {1, 3, 1, 0, 0};
    for (int what = 0; what < 5; what++) Due.is("behind a day", day[what], x.led(what));
    x.day(3);
    int[] second = {2, 5, 1, 0, 0};
    for (int what = 0; what < 5; what++) Due.is("behind another", second[what], x.led(what));
    x.fork(1, 9);
    x.letOut(1);
    int[] last = {2, 5, 1, 9, 10 + 9};
    for (int what = 0; what < 5; what++) Due.is("behind all", last[what], x.led(what));
  }

  /** "STATE: there is none." */
  private static void noImage() {
    NightLetIn x = land();
    Due.is("none", STATE, x.back());
    x.day(-1);
    Due.is("none by a day", STATE, x.back());
    Due.is("nothing is laid back", 23, x.of(0, 0));
    Due.is("one now", 1, x.image());
    Due.is("it is there", 1, x.back());
  }

  /** "AN IMAGE keeps NIGHT, BLUE, what LED tells", and nothing else. */
  private static void imageKeeps() {
    NightLetIn x = land();
    x.day(1);
    x.fork(0, 2);
    x.letOut(1);
    int[] led = new int[5];
    for (int what = 0; what < 5; what++) led[what] = x.led(what);
    x.image();
    x.day(0);
    x.day(-1);
    x.fork(1, 7);
    x.letOut(0);
    x.mend(0, 2, 6);
    x.mend(0, 7, 5);
    x.mend(0, 8, 9);
    x.mend(0, 4, 1);
    x.mend(2, 3, 2);
    Due.is("days then", 1, x.back());
    Due.is("night", 25, x.of(0, 0));
    Due.is("night", 0, x.of(1, 0));
    Due.is("blue", 1, x.of(0, 1));
    Due.is("blue", 0, x.of(1, 1));
    for (int what = 0; what < 5; what++) Due.is("led " + what, led[what], x.led(what));
    Due.is("not the latch", 6, x.of(0, 2));
    Due.is("not the thaw", 5, x.of(0, 7));
    Due.is("not the limit", 9, x.of(0, 8));
    Due.is("not where he lies", 1, x.of(0, 4));
    Due.is("not what he needs", 2, x.of(2, 3));
    Due.is("not the changes", 8, x.count(4));
  }

  /** "(BARNS that came since: NIGHT as it is, BLUE 0)". */
  private static void barnsThatCameSince() {
    NightLetIn x = new NightLetIn();
    x.image();
    x.barn(0, 30);
    x.day(-1);
    Due.is("no days then", 0, x.back());
    Due.is("night as it is", 29, x.of(0, 0));
    Due.is("blue 0", 0, x.of(0, 1));
    x.day(-1);
    x.image();
    x.barn(1, 40);
    x.mend(1, 1, 99);
    x.day(-1);
    x.day(-1);
    x.back();
    Due.is("the older one's night", 28, x.of(0, 0));
    Due.is("the older one's blue", 1, x.of(0, 1));
    Due.is("the other's night as it is", 38, x.of(1, 0));
    Due.is("the other's blue", 0, x.of(1, 1));
  }

  /** All five barns. */
  private static void imageOfFive() {
    NightLetIn x = new NightLetIn();
    for (int barn = 0; barn < 5; barn++) {
      x.barn(barn, 50 + barn);
      x.mend(barn, 1, barn);
    }
    x.image();
    for (int i = 0; i < 5; i++) x.day(i);
    x.back();
    for (int barn = 0; barn < 5; barn++) {
      Due.is("night of " + barn, 50 + barn, x.of(barn, 0));
      Due.is("blue of " + barn, barn, x.of(barn, 1));
    }
  }

  /** The latest image is laid back, as often as it is asked. */
  private static void imageAgain() {
    NightLetIn x = land();
    x.image();
    x.day(-1);
    x.image();
    x.day(-1);
    for (int i = 0; i < 2; i++) {
      Due.is("the later one", 1, x.back());
      Due.is("its night", 23, x.of(0, 0));
      x.day(-1);
    }
  }

  /** "UNDONE: how many may still be. STATE: none." */
  private static void undoNone() {
    NightLetIn x = land();
    for (int i = 2; i >= 0; i--) Due.is("as he lay in none", i, x.undo());
    Due.is("none", STATE, x.undo());
    Due.is("none", STATE, x.undo());
    Due.is("barns stay", 2, x.count(0));
    Due.is("boys stay", 3, x.count(1));
    for (int boy = 0; boy < 3; boy++) Due.is("in none", -1, x.of(boy, 4));
  }

  /** "DONE AGAIN: how many may still be. STATE: none." */
  private static void redoNone() {
    NightLetIn x = land();
    Due.is("none was undone", STATE, x.redo());
    x.undo();
    x.undo();
    Due.is("one more", 1, x.redo());
    Due.is("no more", 0, x.redo());
    Due.is("none", STATE, x.redo());
    Due.is("all three again", 3, x.count(4));
    Due.is("the last lies there again", 1, x.of(2, 4));
  }

  /** "telling the same number is none". */
  private static void tellingTheSame() {
    NightLetIn x = land();
    x.lamp(5, 6);
    x.undo();
    for (int what = 0; what <= 8; what++) Due.is("the same " + what, x.of(0, what), x.mend(0, what, x.of(0, what)));
    Due.is("no change", 2, x.count(4));
    Due.is("what was undone may be done again", 0, x.redo());
  }

  /** "What is answered so changes nothing": a mend() that is VOID is none. */
  private static void refusedIsNoChange() {
    NightLetIn x = land();
    x.undo();
    int[] over = {100, 100, 10, 31, 2, 100, 20, 10, 21};
    for (int what = 0; what <= 8; what++) {
      Due.is("too much", VOID, x.mend(0, what, over[what]));
      Due.is("no such number", VOID, x.mend(-1, what, 1));
      Due.is("no such number", VOID, x.mend(5, what, 1));
    }
    Due.is("no change", 2, x.count(4));
    Due.is("what was undone may be done again", 0, x.redo());
  }

  /** "can be UNDONE, the latest first". */
  private static void latestFirst() {
    NightLetIn x = land();
    x.mend(0, 7, 1);
    x.mend(0, 7, 2);
    x.mend(0, 8, 3);
    x.mend(0, 7, 4);
    x.undo();
    Due.is("thaw", 2, x.of(0, 7));
    Due.is("limit", 3, x.of(0, 8));
    x.undo();
    Due.is("limit", 7, x.of(0, 8));
    x.undo();
    Due.is("thaw", 1, x.of(0, 7));
    x.redo();
    x.redo();
    Due.is("thaw again", 2, x.of(0, 7));
    Due.is("limit again", 3, x.of(0, 8));
    x.redo();
    Due.is("thaw again", 4, x.of(0, 7));
  }

  /** "DONE AGAIN (as long as no other came behind)". */
  private static void anotherCameBehind() {
    NightLetIn x = land();
    x.mend(0, 7, 1);
    x.mend(0, 7, 2);
    x.undo();
    x.undo();
    Due.is("one is done again", 1, x.redo());
    x.mend(0, 8, 5);
    Due.is("another came", STATE, x.redo());
    Due.is("thaw stays", 1, x.of(0, 7));
    Due.is("the other is undone", 4, x.undo());
    Due.is("limit", 7, x.of(0, 8));
    Due.is("and done again", 0, x.redo());
    Due.is("limit", 5, x.of(0, 8));
  }

  /** "40 at most are kept": the oldest of them are gone, whatever they changed. */
  private static void fortyAreKept() {
    NightLetIn x = new NightLetIn();
    for (int i = 0; i < 5; i++) x.barn(i, 0);
    for (int i = 1; i <= 39; i++) x.mend(i % 5, 0, i);
    Due.is("39", 39, x.count(4));
    x.mend(0, 0, 40);
    Due.is("40", 40, x.count(4));
    x.mend(1, 0, 41);
    Due.is("41", 40, x.count(4));
    x.mend(2, 0, 42);
    Due.is("42", 40, x.count(4));
    for (int i = 42; i >= 3; i--) {
      Due.is("undone: " + i, i - 3, x.undo());
      Due.is("number " + i, i > 5 ? i - 5 : 0, x.of(i % 5, 0));
      Due.is("the one ahead of it", i - 1, x.of((i - 1) % 5, 0));
    }
    Due.is("the first two are gone", STATE, x.undo());
    int[] stay = {0, 1, 2, 0, 0};
    for (int barn = 0; barn < 5; barn++) Due.is("barn " + barn, stay[barn], x.of(barn, 0));
    for (int i = 3; i <= 42; i++) {
      Due.is("done again: " + i, 42 - i, x.redo());
      Due.is("number " + i, i, x.of(i % 5, 0));
    }
    Due.is("no more", STATE, x.redo());
  }

  /** "deeds are none (NIGHT, BLUE by them, too)". */
  private static void deedsAreNone() {
    NightLetIn x = new NightLetIn();
    x.barn(0, 50);
    x.mend(0, 0, 60);
    x.undo();
    x.day(0);
    x.fork(0, 5);
    x.letOut(0);
    x.image();
    x.back();
    x.feed('a');
    x.law();
    x.row(0, 0, 3);
    Due.is("none of these", 0, x.count(4));
    Due.is("nothing to undo", STATE, x.undo());
    Due.is("none came behind", 0, x.redo());
    Due.is("night as it was told", 60, x.of(0, 0));
    x.fork(0, 5);
    Due.is("undone", 0, x.undo());
    Due.is("night as it was ahead of the change", 50, x.of(0, 0));
  }
}
