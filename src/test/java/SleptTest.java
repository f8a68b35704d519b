/** Promises 23 to 28: who slept, shares, winters by draws. */
public final class SleptTest {
  private interface Ask { int on(NightLetIn x, int shelf); }

  public static void main(String[] args) {
    refusals("23 judge", (x, s) -> x.judge(s));
    refusals("24 howBad", (x, s) -> x.howBad(s, 0));
    refusals("25 thawed", (x, s) -> x.thawed(s, 0));
    refusals("26 which", (x, s) -> x.which(s, 0));
    judge();
    howBad();
    thawed();
    which();
    share();
    drawn();
    Due.end();
  }

  private static void refusals(String name, Ask ask) {
    NightLetIn x = land();
    Due.is(name + " shelf below", NightLetIn.BAD, ask.on(x, -1));
    Due.is(name + " shelf above", NightLetIn.BAD, ask.on(x, 6));
    Due.is(name + " nothing", -11, ask.on(x, 5));
    x.body(0);
    x.keep(5, 0);
    Due.is(name + " a body", -12, ask.on(x, 5));
    for (int sort = 1; sort <= 4; sort++) {
      x.row(5, sort, 1);
      Due.is(name + " sort " + sort, -12, ask.on(x, 5));
    }
  }

  /** Barns with 24 and 12; boys who need 10 and 12 in the first, 11 in the second. */
  private static NightLetIn land() {
    NightLetIn x = new NightLetIn();
    x.barn(0, 24);
    x.barn(1, 12);
    Due.boyIn(x, 10, 0);
    Due.boyIn(x, 12, 0);
    Due.boyIn(x, 11, 1);
    return x;
  }

  private static void judge() {
    NightLetIn x = land();
    Due.row(x, 0, 0, 7, 5, 1, 1, 1, 0);
    Due.is("23 all so", NightLetIn.NOT, x.judge(0));
    x.put(0, 4, 0);
    Due.is("23 day 4", 4, x.judge(0));
    x.put(0, 0, 6);
    Due.is("23 the first", 0, x.judge(0));
    x.row(0, 0, 0);
    Due.is("23 no days", NightLetIn.NOT, x.judge(0));
    Due.row(x, 0, 0, 15);
    Due.is("23 one who is not there", 0, x.judge(0));
    for (int boy = 3; boy < 8; boy++) Due.boyIn(x, 0, 0);
    x.mend(0, 3, 0);
    x.mend(1, 3, 0);
    Due.row(x, 0, 0, -1);
    Due.is("23 eight are a byte's bits", NightLetIn.NOT, x.judge(0));
    x.put(0, 0, 127);
    Due.is("23 the eighth slept, too", 0, x.judge(0));
    x.mend(7, 3, 30);
    Due.is("23 the eighth did not", NightLetIn.NOT, x.judge(0));
    x.row(1, 0, 60);
    Due.is("23 the longest row", 0, x.judge(1));
    x.mend(0, 1, 99);
    x.mend(1, 1, 99);
    Due.is("23 the longest row: blue from now on", NightLetIn.NOT, x.judge(1));
    Due.is("23 no turns by the row itself", 99, x.of(0, 1));
  }

  private static void howBad() {
    NightLetIn x = land();
    Due.row(x, 0, 0, 7, 5, 1);
    Due.is("24 no barn", NightLetIn.BAD, x.howBad(0, 2));
    Due.is("24 no barn", NightLetIn.BAD, x.howBad(0, -1));
    Due.is("24 bad ahead of nothing there", NightLetIn.BAD, x.howBad(5, 2));
    Due.is("24 as it is", 1, x.howBad(0, 0));
    Due.is("24 the other", 1, x.howBad(0, 1));
    Due.row(x, 0, 0, 7, 5);
    Due.is("24 it may be tight", 0, x.howBad(0, 1));
    Due.row(x, 0, 0, 7, 4);
    Due.is("24 20 by two would do for the first", 5, x.howBad(0, 0));
    Due.row(x, 0, 0, 7, 4, 0);
    Due.is("24 19, then 14", 5, x.howBad(0, 0));
    Due.row(x, 0, 0, 7, 4, 4);
    Due.is("24 the other barn is bad as well", NightLetIn.NOT, x.howBad(0, 0));
    Due.row(x, 0, 0, 3);
    Due.is("24 never", NightLetIn.NOT, x.howBad(0, 0));
    x.row(0, 0, 0);
    Due.is("24 any would do", 0, x.howBad(0, 0));
    Due.is("24 the latch is as it was", 1, x.of(0, 2));
    NightLetIn y = new NightLetIn();
    y.barn(0, 10);
    Due.boyIn(y, 2, 0);
    Due.row(y, 0, 0, 1, 0);
    Due.is("24 the worst", 9, y.howBad(0, 0));
    y.mend(0, 3, 1);
    Due.is("24 worse than can be", NightLetIn.NOT, y.howBad(0, 0));
  }

  private static void thawed() {
    NightLetIn x = land();
    Due.row(x, 0, 0, 7, 5, 1);
    Due.is("25 no what", NightLetIn.BAD, x.thawed(0, 2));
    Due.is("25 no what", NightLetIn.BAD, x.thawed(0, -1));
    Due.is("25 bad ahead of nothing there", NightLetIn.BAD, x.thawed(5, 2));
    Due.is("25 0, 1, 2", 3, x.thawed(0, 0));
    Due.is("25 0, 1, 2", 0, x.thawed(0, 1));
    Due.row(x, 0, 0, 7, 1);
    Due.is("25 from 3 to 9", 7, x.thawed(0, 0));
    Due.is("25 from 3", 3, x.thawed(0, 1));
    Due.row(x, 0, 0, 7, 7);
    Due.is("25 none", 0, x.thawed(0, 0));
    Due.is("25 none", NightLetIn.NOT, x.thawed(0, 1));
    x.row(0, 0, 0);
    Due.is("25 all", 10, x.thawed(0, 0));
    Due.is("25 thaw is as it was", 0, x.of(0, 7));
  }

  private static void which() {
    NightLetIn x = land();
    Due.is("26 no boy", NightLetIn.BAD, x.which(0, 3));
    Due.is("26 no boy", NightLetIn.BAD, x.which(0, -1));
    Due.is("26 bad ahead of nothing there", NightLetIn.BAD, x.which(5, 3));
    Due.row(x, 0, 0, 7);
    Due.is("26 where he lies", 1, x.which(0, 1));
    Due.row(x, 0, 0, 5);
    Due.is("26 in none; by the other he would keep one awake", 32, x.which(0, 1));
    Due.row(x, 0, 0, 1);
    Due.is("26 in the other", 2, x.which(0, 1));
    Due.row(x, 0, 0, 3);
    Due.is("26 the third in none", 32, x.which(0, 2));
    Due.row(x, 0, 0, 2);
    Due.is("26 nowhere", 0, x.which(0, 1));
    x.row(0, 0, 0);
    Due.is("26 anywhere that is there", 32 + 1 + 2, x.which(0, 1));
    Due.is("26 he lies as he did", 0, x.of(1, 4));
    Due.law(x, "n*10");
    Due.row(x, 0, 0, 7, 1);
    Due.is("26 how many lie there counts for the law", 1, x.which(0, 1));
  }

  private static void share() {
    NightLetIn x = new NightLetIn();
    Due.is("27 no barn", NightLetIn.BAD, x.share(5, 0));
    x.barn(0, 0);
    x.barn(1, 0);
    x.barn(2, 0);
    Due.is("27 no barn", NightLetIn.BAD, x.share(5, 3));
    Due.is("27 no barn", NightLetIn.BAD, x.share(5, -1));
    Due.is("27 v below", NightLetIn.BAD, x.share(-1, 0));
    Due.is("27 v above", NightLetIn.BAD, x.share(1000, 0));
    Due.is("27 alike", 4, x.share(11, 0));
    Due.is("27 alike", 4, x.share(11, 1));
    Due.is("27 alike", 3, x.share(11, 2));
    Due.is("27 all of it", 333, x.share(999, 2));
    x.boy(30);
    Due.is("27 who lies in none does not count", 4, x.share(11, 0));
    Due.boyIn(x, 0, 2);
    Due.is("27 who needs nothing does not count", 4, x.share(11, 1));
    Due.boyIn(x, 5, 1);
    Due.boyIn(x, 4, 2);
    Due.boyIn(x, 2, 2);
    Due.is("27 no needs, but what is left", 1, x.share(10, 0));
    Due.is("27 50 by 11", 4, x.share(10, 1));
    Due.is("27 60 by 11", 5, x.share(10, 2));
    Due.is("27 nothing left", 0, x.share(11, 0));
    Due.is("27 nothing left", 5, x.share(11, 1));
    Due.is("27 nothing left", 6, x.share(11, 2));
    Due.is("27 nothing", 0, x.share(0, 1));
    Due.is("27 most", 999, x.share(999, 0) + x.share(999, 1) + x.share(999, 2));
  }

  private static void drawn() {
    NightLetIn x = new NightLetIn();
    Due.is("28 no winters", NightLetIn.BAD, x.drawn(1, 60, 0));
    Due.is("28 no days", NightLetIn.BAD, x.drawn(1, 100, 0));
    Due.is("28 too many days", NightLetIn.BAD, x.drawn(1, 161, 0));
    Due.is("28 too many winters", NightLetIn.BAD, x.drawn(1, 3101, 0));
    Due.is("28 below 0", NightLetIn.BAD, x.drawn(1, -101, 0));
    Due.is("28 far below 0", NightLetIn.BAD, x.drawn(1, Integer.MIN_VALUE, 0));
    Due.is("28 no what", NightLetIn.BAD, x.drawn(1, 101, 2));
    Due.is("28 no what", NightLetIn.BAD, x.drawn(1, 101, -1));
    Due.is("28 no boys: all sleep", 1800, x.drawn(1, 3060, 0));
    Due.is("28 no barns", 0, x.drawn(1, 3060, 1));
    for (int barn = 0; barn < 5; barn++) x.barn(barn, 99);
    for (int boy = 0; boy < 5; boy++) Due.boyIn(x, 20, boy);
    x.mend(0, 8, 5);
    for (int seed = -3; seed <= 3; seed++) {
      int[] want = byHand(seed * 1234567, 4, 30);
      Due.is("28 days", want[0], x.drawn(seed * 1234567, 430, 0));
      Due.is("28 barns", want[1], x.drawn(seed * 1234567, 430, 1));
    }
    x.boy(0);
    Due.is("28 one lies in none", 0, x.drawn(5, 430, 0));
    Due.is("28 nothing changed", 99, x.of(0, 0));
  }

  /** The same winters, with each winter's turns put on a shelf. */
  private static int[] byHand(int seed, int winters, int days) {
    int z = seed, all = 0, blue = 0;
    for (int winter = 0; winter < winters; winter++) {
      NightLetIn y = new NightLetIn();
      for (int barn = 0; barn < 5; barn++) y.barn(barn, 99);
      for (int boy = 0; boy < 5; boy++) Due.boyIn(y, 20, boy);
      y.mend(0, 8, 5);
      y.row(0, 0, days);
      for (int day = 0; day < days; day++) {
        z = z * 1103515245 + 12345;
        y.put(0, day, (z >>> 8) % 8);
      }
      all += y.often(0, days, -1);
      for (int barn = 0; barn < 5; barn++) blue += y.later(0, days, barn, 1) >= 5 ? 1 : 0;
    }
    return new int[] {all, blue};
  }
}
