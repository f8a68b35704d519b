import java.util.Random;

/** The edges that section 2 of the document names, each sentence with a method of its own, in the document's order. */
public final class ThoughtEdgesTest {
  private static final int BAD = NightLetIn.BAD, NOT = NightLetIn.NOT, STATE = NightLetIn.STATE;
  private static final int[] OFF_SHELVES = {Integer.MIN_VALUE, -1, 6, Integer.MAX_VALUE};

  public static void main(String[] args) {
    behindDays();
    sleepsToday();
    howOftenOne();
    howOftenAll();
    firstBlueDay();
    blueByHundredDays();
    shelvesOfTurns();
    refusalsInTheirOrder();
    keepsRange();
    keepsByNinetyNine();
    keepsWithoutTurns();
    turningsDays();
    turningsOfNoDays();
    blueAsADayBegins();
    blueSoonest();
    ofLikeOnesTheLeast();
    notAnyMoreBlue();
    turningsKth();
    turningsOfFive();
    bedsSixAtMost();
    bedsNoneBehindAll();
    bedsFirstByNumbers();
    bedsOfNobody();
    bedsKth();
    dealRange();
    dealWhatTheyGet();
    dealNotAll();
    dealLeastToTheFirst();
    dealWhereTheyLie();
    dealKth();
    dealByEveryAmount();
    Due.end();
  }

  /** Two barns (35, 25), a boy who needs 30 in the first, no TURNS on shelf 0. */
  private static NightLetIn land() {
    NightLetIn x = new NightLetIn();
    x.barn(0, 35);
    x.barn(1, 25);
    Due.boyIn(x, 30, 0);
    x.row(0, 0, 0);
    return x;
  }

  /** "behind n days (0 .. 99)". */
  private static void behindDays() {
    NightLetIn x = land();
    for (int n : new int[] {Integer.MIN_VALUE, -1, 100, Integer.MAX_VALUE}) {
      Due.is("later " + n, BAD, x.later(0, n, 0, 0));
      Due.is("sleeps " + n, BAD, x.sleeps(0, n));
      Due.is("often " + n, BAD, x.often(0, n, 0));
    }
    Due.is("0: as it is", 35, x.later(0, 0, 0, 0));
    Due.is("0: as it is", 0, x.later(0, 0, 0, 1));
    Due.is("1", 34, x.later(0, 1, 0, 0));
    Due.is("34", 1, x.later(0, 34, 0, 0));
    Due.is("35", 0, x.later(0, 35, 0, 0));
    Due.is("99", 99, x.later(0, 99, 0, 1));
    Due.is("98", 98, x.later(0, 98, 0, 1));
  }

  /** "who SLEEPS (bits) in the day n behind now (0: today)". */
  private static void sleepsToday() {
    NightLetIn x = land();
    Due.is("0 is today", 1, x.sleeps(0, 0));
    Due.is("in day 5 there are 30", 1, x.sleeps(0, 5));
    Due.is("in day 6 there are 29", 0, x.sleeps(0, 6));
    Due.is("in day 99", 0, x.sleeps(0, 99));
    x.mend(0, 8, 1);
    Due.is("not blue today", 1, x.sleeps(0, 0));
    Due.is("blue in day 1", 0, x.sleeps(0, 1));
    Due.row(x, 0, 0, 0);
    Due.is("turned today", 1, x.sleeps(0, 1));
    Due.is("blue in day 2", 0, x.sleeps(0, 2));
  }

  /** "how often one SLEEPS in n days": today is the first of them. */
  private static void howOftenOne() {
    NightLetIn x = land();
    Due.is("no days", 0, x.often(0, 0, 0));
    Due.is("today", 1, x.often(0, 1, 0));
    Due.is("today to day 5", 6, x.often(0, 6, 0));
    Due.is("and no more", 6, x.often(0, 7, 0));
    Due.is("99 days", 6, x.often(0, 99, 0));
    Due.law(x, "a");
    x.mend(0, 8, 20);
    x.row(0, 0, 60);
    Due.is("sixty turned days and twenty more", 80, x.often(0, 99, 0));
    Due.is("boy 1 is not there", BAD, x.often(0, 9, 1));
    Due.is("boy -2", BAD, x.often(0, 9, -2));
  }

  /** "on how many of n days all SLEEP" (-1): with nobody there, all do. */
  private static void howOftenAll() {
    NightLetIn x = land();
    Due.is("one is all", 6, x.often(0, 9, -1));
    Due.boyIn(x, 23, 1);
    Due.is("both", 3, x.often(0, 9, -1));
    x.boy(0);
    Due.is("one who lies in none never does", 0, x.often(0, 9, -1));
    NightLetIn none = new NightLetIn();
    none.row(0, 0, 0);
    Due.is("nobody, no days", 0, none.often(0, 0, -1));
    Due.is("nobody, 99 days", 99, none.often(0, 99, -1));
    Due.is("boy 0 of nobody", BAD, none.often(0, 9, 0));
  }

  /** "the first day (0 on) as which begins a BARN is BLUE". */
  private static void firstBlueDay() {
    NightLetIn x = land();
    x.mend(0, 1, 99);
    Due.is("far more than the limit", 0, x.blue(0, 0));
    x.mend(0, 1, 7);
    Due.is("as much as the limit", 0, x.blue(0, 0));
    x.mend(0, 1, 6);
    Due.is("one less", 1, x.blue(0, 0));
    Due.row(x, 0, 0, -1, 0);
    Due.is("turned too late", 1, x.blue(0, 0));
    Due.row(x, 0, 0, 0);
    Due.is("turned in time", 8, x.blue(0, 0));
    Due.is("the other barn is not turned", 7, x.blue(0, 1));
    x.mend(0, 8, 1);
    Due.is("limit 1", 0, x.blue(0, 0));
    x.mend(0, 1, 0);
    x.row(0, 0, 0);
    Due.is("limit 1, blue 0", 1, x.blue(0, 0));
  }

  /** "by 100 days (NOT)": the longest row and the highest limit come to day 80, so that it is never NOT. */
  private static void blueByHundredDays() {
    NightLetIn x = land();
    x.mend(0, 8, 20);
    x.row(0, 0, 60);
    Due.is("sixty turns, then twenty days", 80, x.blue(0, 0));
    x.mend(0, 8, 19);
    Due.is("sixty turns, then nineteen days", 79, x.blue(0, 0));
  }

  /** "(TURNS on a SHELF; BAD, -11, -12 (no ROW of bytes))". */
  private static void shelvesOfTurns() {
    NightLetIn x = land();
    for (int shelf : OFF_SHELVES) turnsAnswer(x, shelf, BAD);
    turnsAnswer(x, 5, -11);
    x.body(0);
    x.keep(5, 0);
    turnsAnswer(x, 5, -12);
    for (int sort = 1; sort <= 4; sort++) {
      x.row(5, sort, 1);
      turnsAnswer(x, 5, -12);
    }
    x.row(5, 0, 0);
    Due.is("a row of bytes", 35, x.later(5, 0, 0, 0));
    x.keep(5, -1);
    turnsAnswer(x, 5, -11);
  }

  private static void turnsAnswer(NightLetIn x, int shelf, int want) {
    Due.is("later by shelf " + shelf, want, x.later(shelf, 1, 0, 0));
    Due.is("sleeps by shelf " + shelf, want, x.sleeps(shelf, 1));
    Due.is("often by shelf " + shelf, want, x.often(shelf, 1, 0));
    Due.is("often of all by shelf " + shelf, want, x.often(shelf, 1, -1));
    Due.is("blue by shelf " + shelf, want, x.blue(shelf, 0));
  }

  /** "of several the one named first": BAD ahead of -11 and -12. */
  private static void refusalsInTheirOrder() {
    NightLetIn x = land();
    x.row(4, 2, 3);
    for (int shelf = 4; shelf <= 5; shelf++) {
      Due.is("later, no barn", BAD, x.later(shelf, 1, 2, 0));
      Due.is("later, no what", BAD, x.later(shelf, 1, 0, 2));
      Due.is("later, no days", BAD, x.later(shelf, 100, 0, 0));
      Due.is("sleeps, no days", BAD, x.sleeps(shelf, -1));
      Due.is("often, no days", BAD, x.often(shelf, 100, 0));
      Due.is("often, no boy", BAD, x.often(shelf, 1, 1));
      Due.is("blue, no barn", BAD, x.blue(shelf, 2));
    }
  }

  /** "less than v (0 .. 99)". */
  private static void keepsRange() {
    NightLetIn x = land();
    for (int v : new int[] {Integer.MIN_VALUE, -1, 100, Integer.MAX_VALUE}) Due.is("v " + v, BAD, x.keeps(0, v));
    for (int barn : new int[] {-1, 2, 5}) Due.is("barn " + barn, BAD, x.keeps(barn, 5));
    Due.is("never less than 0", NOT, x.keeps(0, 0));
    Due.is("less than 99 at once", 0, x.keeps(0, 99));
    Due.is("less than 36 at once", 0, x.keeps(0, 36));
    Due.is("just 35 is not less", 1, x.keeps(0, 35));
    Due.is("less than 1", 35, x.keeps(0, 1));
  }

  /** "behind how many days (0 .. 99) .. first less; NOT". */
  private static void keepsByNinetyNine() {
    NightLetIn x = land();
    x.mend(0, 0, 99);
    Due.is("behind 98 days", 98, x.keeps(0, 2));
    Due.is("behind 99 days", 99, x.keeps(0, 1));
    Due.law(x, "d=0?99;a-1");
    Due.is("behind 99 days", 99, x.keeps(0, 2));
    Due.is("not by 99 days", NOT, x.keeps(0, 1));
    Due.law(x, "d=3?4;90");
    Due.is("the first time, though it is more again", 4, x.keeps(0, 5));
  }

  /** "without TURNS": the barn grows as blue as it can. */
  private static void keepsWithoutTurns() {
    NightLetIn x = land();
    x.mend(0, 0, 50);
    x.row(0, 0, 60);
    Due.law(x, "b<98?50;0");
    Due.is("blue 98 in day 98", 99, x.keeps(0, 50));
    Due.law(x, "b<99?50;0");
    Due.is("blue 99 in day 99 comes too late", NOT, x.keeps(0, 50));
  }

  /** "TURNINGS: n days (0 .. 60)". */
  private static void turningsDays() {
    NightLetIn x = land();
    for (int n : new int[] {Integer.MIN_VALUE, -1, 61, Integer.MAX_VALUE}) {
      Due.is("n " + n, BAD, x.turnings(n, -1));
      Due.is("n " + n, BAD, x.turnings(n, 0));
    }
    Due.is("limit 7: no turning in seven days", 0, x.turnings(7, -1));
    Due.is("both in eight", 2, x.turnings(8, -1));
    Due.is("sixty: one each day that is more than six from the last", 54, x.turnings(60, -1));
  }

  /** 0 days: none of them begins, so that no barn need be turned nor can be BLUE as one begins. */
  private static void turningsOfNoDays() {
    NightLetIn x = land();
    Due.is("none", 0, x.turnings(0, -1));
    x.mend(0, 1, 99);
    Due.is("though one is blue", 0, x.turnings(0, -1));
    Due.is("no day 0", BAD, x.turnings(0, 0));
  }

  /** "NOT: by this one is BLUE": as any of the days begins, the first and the last, too. */
  private static void blueAsADayBegins() {
    NightLetIn x = land();
    x.mend(0, 1, 7);
    Due.is("as the first begins", NOT, x.turnings(1, -1));
    Due.is("as the first begins", NOT, x.turnings(60, 59));
    x.mend(0, 1, 6);
    x.mend(1, 1, 6);
    Due.is("one day", 0, x.turnings(1, -1));
    Due.is("one of two as the second begins", NOT, x.turnings(2, -1));
    Due.is("every day's answer is so", NOT, x.turnings(2, 0));
    Due.is("every day's answer is so", NOT, x.turnings(2, 1));
    x.mend(0, 8, 1);
    x.mend(0, 1, 0);
    x.mend(1, 1, 0);
    Due.is("limit 1 and two barns: one day", 0, x.turnings(1, -1));
    Due.is("limit 1 and two barns: two days", NOT, x.turnings(2, -1));
  }

  /** "each day that BARN is TURNED that would be BLUE soonest (most BLUE then". */
  private static void blueSoonest() {
    NightLetIn x = land();
    x.barn(2, 9);
    x.mend(0, 1, 4);
    x.mend(1, 1, 5);
    x.mend(2, 1, 6);
    int[] want = {2, 1, 0, 2, 1, 0, 2};
    for (int k = 0; k < want.length; k++) Due.is("day " + k, want[k], x.turnings(60, k));
  }

  /** "of like ones the least". */
  private static void ofLikeOnesTheLeast() {
    NightLetIn x = land();
    x.barn(2, 9);
    x.mend(0, 1, 2);
    x.mend(1, 1, 4);
    x.mend(2, 1, 4);
    int[] want = {1, 2, 0, 1, 2, 0};
    for (int k = 0; k < want.length; k++) Due.is("day " + k, want[k], x.turnings(60, k));
  }

  /** "but none that would not be BLUE any more as one of these days begins, even if it never were". */
  private static void notAnyMoreBlue() {
    NightLetIn x = new NightLetIn();
    x.barn(0, 9);
    x.mend(0, 1, 3);
    Due.is("blue as day 4 would begin: four days", 0, x.turnings(4, -1));
    Due.is("five days", 1, x.turnings(5, -1));
    Due.is("at once", 0, x.turnings(5, 0));
    Due.is("then none", NOT, x.turnings(5, 1));
    Due.is("eleven days: 0 as day 1 begins, 7 as day 8 begins", 4, x.turnings(11, -1));
    int[] want = {0, 0, 0, 0, NOT, NOT, NOT, NOT, NOT, NOT, NOT};
    for (int k = 0; k < want.length; k++) Due.is("day " + k, want[k], x.turnings(11, k));
  }

  /** "the BARN of the k-th day (NOT: none)"; "(k -1)": how many; another k is no day of these. */
  private static void turningsKth() {
    NightLetIn x = land();
    for (int k : new int[] {Integer.MIN_VALUE, -2, 8, 60, Integer.MAX_VALUE}) {
      Due.is("k " + k, BAD, x.turnings(8, k));
    }
    x.mend(0, 1, 7);
    Due.is("bad ahead of not", BAD, x.turnings(8, 8));
    Due.is("not", NOT, x.turnings(8, 7));
    x.mend(0, 1, 0);
    x.mend(1, 1, 6);
    int[] want = {1, 0, NOT, NOT, NOT, NOT, NOT, NOT};
    for (int k = 0; k < want.length; k++) Due.is("day " + k, want[k], x.turnings(8, k));
    Due.is("how many", 2, x.turnings(8, -1));
  }

  /** All five barns. */
  private static void turningsOfFive() {
    NightLetIn x = new NightLetIn();
    for (int barn = 0; barn < 5; barn++) x.barn(barn, 9);
    x.mend(0, 8, 5);
    Due.is("limit 5 does for five", 59, x.turnings(60, -1));
    for (int k = 0; k < 59; k++) Due.is("round and round", k % 5, x.turnings(60, k));
    Due.is("then none", NOT, x.turnings(60, 59));
    x.mend(0, 8, 4);
    Due.is("limit 4 does not, as day 4 begins", NOT, x.turnings(5, -1));
    Due.is("limit 4 does till then", 0, x.turnings(4, -1));
  }

  /** "6 BOYS at most, else STATE". */
  private static void bedsSixAtMost() {
    NightLetIn x = new NightLetIn();
    x.barn(0, 90);
    for (int boy = 0; boy < 6; boy++) x.boy(15);
    Due.is("six", 6, x.beds(-1));
    Due.is("the last lies there", 0, x.beds(5));
    Due.is("no seventh", BAD, x.beds(6));
    x.boy(0);
    for (int k = -1; k < 7; k++) Due.is("seven", STATE, x.beds(k));
    Due.is("bad ahead of state", BAD, x.beds(7));
    Due.is("bad ahead of state", BAD, x.beds(-2));
    x.boy(0);
    Due.is("eight", STATE, x.beds(-1));
    Due.is("eight", STATE, x.beds(7));
  }

  /** "(NOT: in none; .. none behind all)": in a barn, though he does not sleep there, if nobody is kept awake by it. */
  private static void bedsNoneBehindAll() {
    NightLetIn x = new NightLetIn();
    x.barn(0, 30);
    x.boy(30);
    x.boy(30);
    Due.is("one sleeps", 1, x.beds(-1));
    Due.is("the first in the barn", 0, x.beds(0));
    Due.is("the other in none", NOT, x.beds(1));
    x.barn(1, 0);
    Due.is("or in an empty barn rather than in none", 1, x.beds(1));
    x.mend(0, 0, 0);
    Due.is("nobody sleeps", 0, x.beds(-1));
    Due.is("so both lie in barn 0", 0, x.beds(0) + x.beds(1));
    NightLetIn y = new NightLetIn();
    y.boy(0);
    Due.is("no barn: nobody sleeps", 0, y.beds(-1));
    Due.is("no barn: in none", NOT, y.beds(0));
  }

  /** "of like ones the first by numbers, BOY by BOY". */
  private static void bedsFirstByNumbers() {
    NightLetIn x = new NightLetIn();
    x.barn(0, 20);
    x.barn(1, 20);
    x.barn(2, 20);
    for (int boy = 0; boy < 6; boy++) x.boy(10);
    int[] pairs = {0, 0, 1, 1, 2, 2};
    for (int k = 0; k < 6; k++) Due.is("two by two: " + k, pairs[k], x.beds(k));
    for (int alone = 0; alone < 3; alone++) {
      NightLetIn y = new NightLetIn();
      y.barn(0, 20);
      y.barn(1, 20);
      for (int boy = 0; boy < 3; boy++) y.boy(boy == alone ? 20 : 10);
      Due.is("all three", 3, y.beds(-1));
      Due.is("the first in the first barn", 0, y.beds(0));
      Due.is("the second", alone == 2 ? 0 : 1, y.beds(1));
      Due.is("the third", alone == 1 ? 0 : 1, y.beds(2));
    }
  }

  /** BEDS without boys. */
  private static void bedsOfNobody() {
    NightLetIn x = new NightLetIn();
    Due.is("nobody, no barns", 0, x.beds(-1));
    x.barn(0, 9);
    Due.is("nobody", 0, x.beds(-1));
    Due.is("no boy 0", BAD, x.beds(0));
  }

  /** "how many (k -1), where the k-th lies". */
  private static void bedsKth() {
    NightLetIn x = land();
    for (int k : new int[] {Integer.MIN_VALUE, -2, 1, 6, Integer.MAX_VALUE}) Due.is("k " + k, BAD, x.beds(k));
    Due.is("how many", 1, x.beds(-1));
    Due.is("where", 0, x.beds(0));
    x.mend(0, 1, 7);
    Due.is("blue: the other has too little", 0, x.beds(-1));
    x.mend(1, 0, 30);
    Due.is("where he sleeps", 1, x.beds(0));
    Due.is("he lies as he did", 0, x.of(0, 4));
  }

  /** "v of NIGHT (0 .. 99)". */
  private static void dealRange() {
    NightLetIn x = land();
    for (int v : new int[] {Integer.MIN_VALUE, -1, 100, Integer.MAX_VALUE}) {
      Due.is("v " + v, BAD, x.deal(v, -1));
      Due.is("v " + v, BAD, x.deal(v, 0));
    }
    Due.is("0", 0, x.deal(0, -1));
    Due.is("29", 0, x.deal(29, -1));
    Due.is("30", 1, x.deal(30, -1));
    Due.is("99", 1, x.deal(99, -1));
    Due.boyIn(x, 30, 0);
    Due.boyIn(x, 30, 0);
    Due.boyIn(x, 9, 1);
    Due.is("90 and 9 of 99", 4, x.deal(99, -1));
    Due.is("90 and 9 of 98", 3, x.deal(98, -1));
  }

  /** "BARNS, which have just what they get then". */
  private static void dealWhatTheyGet() {
    NightLetIn x = land();
    x.mend(0, 0, 99);
    Due.is("what it has does not count", 0, x.deal(29, -1));
    Due.is("what it has does not count", 0, x.deal(29, 0));
    Due.is("as it was", 99, x.of(0, 0));
  }

  /** "(not all need be dealt)". */
  private static void dealNotAll() {
    NightLetIn x = land();
    Due.is("30 of 99", 30, x.deal(99, 0));
    Due.is("nobody lies there", 0, x.deal(99, 1));
    x.mend(0, 1, 7);
    Due.is("blue: nobody sleeps there", 0, x.deal(99, -1));
    Due.is("blue: it gets nothing", 0, x.deal(99, 0));
    x.mend(0, 4, -1);
    Due.is("in none", 0, x.deal(99, -1));
  }

  /** "of like ones the first: least to the first BARN, and so on". */
  private static void dealLeastToTheFirst() {
    NightLetIn x = new NightLetIn();
    for (int barn = 0; barn < 3; barn++) x.barn(barn, 0);
    Due.boyIn(x, 4, 0);
    Due.boyIn(x, 8, 1);
    Due.boyIn(x, 9, 2);
    dealt(x, 3, 0, 0, 0, 0);
    dealt(x, 4, 1, 4, 0, 0);
    dealt(x, 8, 1, 0, 8, 0);
    dealt(x, 9, 1, 0, 0, 9);
    dealt(x, 11, 1, 0, 0, 9);
    dealt(x, 12, 2, 4, 8, 0);
    dealt(x, 13, 2, 4, 0, 9);
    dealt(x, 16, 2, 4, 0, 9);
    dealt(x, 17, 2, 0, 8, 9);
    dealt(x, 20, 2, 0, 8, 9);
    dealt(x, 21, 3, 4, 8, 9);
    dealt(x, 99, 3, 4, 8, 9);
  }

  private static void dealt(NightLetIn x, int v, int sleeping, int... gets) {
    Due.is("how many by " + v, sleeping, x.deal(v, -1));
    for (int barn = 0; barn < gets.length; barn++) Due.is("barn " + barn + " by " + v, gets[barn], x.deal(v, barn));
  }

  /** "BOYS where they lie": who cannot sleep shares all the same. */
  private static void dealWhereTheyLie() {
    NightLetIn x = new NightLetIn();
    x.barn(0, 0);
    x.barn(1, 0);
    Due.boyIn(x, 5, 0);
    Due.boyIn(x, 30, 0);
    Due.boyIn(x, 30, 0);
    dealt(x, 14, 0, 0, 0);
    dealt(x, 15, 1, 15, 0);
    dealt(x, 89, 1, 15, 0);
    dealt(x, 90, 3, 90, 0);
    Due.boyIn(x, 0, 1);
    dealt(x, 0, 1, 0, 0);
    dealt(x, 90, 4, 90, 0);
  }

  /** "how many (k -1), how much BARN k gets". */
  private static void dealKth() {
    NightLetIn x = land();
    for (int k : new int[] {Integer.MIN_VALUE, -2, 2, 5, Integer.MAX_VALUE}) Due.is("k " + k, BAD, x.deal(50, k));
    NightLetIn none = new NightLetIn();
    none.boy(0);
    Due.is("no barns", 0, none.deal(50, -1));
    Due.is("no barn 0", BAD, none.deal(50, 0));
  }

  /** DEAL against every way to deal v out to three barns, of which one may be blue. */
  private static void dealByEveryAmount() {
    Random random = new Random(3);
    for (int run = 0; run < 300; run++) {
      NightLetIn x = new NightLetIn();
      for (int barn = 0; barn < 3; barn++) x.barn(barn, random.nextInt(100));
      int blue = random.nextInt(6);
      if (blue < 3) x.mend(blue, 1, 7);
      int[] needs = random.ints(random.nextInt(9), 0, 9).toArray();
      int[] places = random.ints(needs.length, -1, 3).toArray();
      for (int boy = 0; boy < needs.length; boy++) {
        Due.boyIn(x, needs[boy], places[boy]);
        if (places[boy] == blue) needs[boy] = 1000;
      }
      int v = random.nextInt(31);
      int[] best = bestDeal(needs, places, v);
      Due.is("how many by " + v + " in run " + run, best[3], x.deal(v, -1));
      for (int barn = 0; barn < 3; barn++) Due.is("barn " + barn + " in run " + run, best[barn], x.deal(v, barn));
    }
  }

  /** What three barns get, and how many sleep then; the first one found stays, and they are tried in their order. */
  private static int[] bestDeal(int[] needs, int[] places, int v) {
    int[] best = {0, 0, 0, -1};
    for (int first = 0; first <= v; first++) {
      for (int second = 0; first + second <= v; second++) {
        for (int third = 0; first + second + third <= v; third++) {
          int sleep = asleep(needs, places, 0, first) + asleep(needs, places, 1, second)
              + asleep(needs, places, 2, third);
          if (sleep > best[3]) best = new int[] {first, second, third, sleep};
        }
      }
    }
    return best;
  }

  private static int asleep(int[] needs, int[] places, int barn, int night) {
    int lying = 0, sleep = 0;
    for (int place : places) if (place == barn) lying++;
    for (int boy = 0; boy < needs.length; boy++) {
      if (places[boy] == barn && night / lying >= needs[boy]) sleep++;
    }
    return sleep;
  }
}
