/** Promises 10 to 17: days in thought, turnings, beds, deals. */
public final class ThoughtTest {
  private interface Ask { int on(NightLetIn x, int shelf); }

  public static void main(String[] args) {
    refusals("10 later", (x, s) -> x.later(s, 1, 0, 0));
    refusals("11 sleeps", (x, s) -> x.sleeps(s, 1));
    refusals("12 often", (x, s) -> x.often(s, 1, 0));
    refusals("13 blue", (x, s) -> x.blue(s, 0));
    later();
    sleeps();
    often();
    blue();
    keeps();
    turnings();
    beds();
    deal();
    nothingChanges();
    Due.end();
  }

  /** No such shelf, nothing on it, a body, rows of other sorts. */
  private static void refusals(String name, Ask ask) {
    NightLetIn x = land();
    Due.is(name + " shelf below", NightLetIn.BAD, ask.on(x, -1));
    Due.is(name + " shelf above", NightLetIn.BAD, ask.on(x, 6));
    Due.is(name + " nothing", -11, ask.on(x, 5));
    x.body(0);
    x.keep(5, 0);
    Due.is(name + " a body", -12, ask.on(x, 5));
    for (int sort = 1; sort <= 4; sort++) {
      x.row(5, sort, 3);
      Due.is(name + " sort " + sort, -12, ask.on(x, 5));
    }
  }

  /** Two barns (60, 30), boys 10 and 20 in the first, 15 in the second, 0 in none; no TURNS on shelf 0. */
  private static NightLetIn land() {
    NightLetIn x = new NightLetIn();
    x.barn(44, 60);
    x.barn(12, 30);
    Due.boyIn(x, 10, 0);
    Due.boyIn(x, 20, 0);
    Due.boyIn(x, 15, 1);
    x.boy(0);
    x.row(0, 0, 0);
    return x;
  }

  private static void later() {
    NightLetIn x = land();
    Due.is("10 n below", NightLetIn.BAD, x.later(0, -1, 0, 0));
    Due.is("10 n above", NightLetIn.BAD, x.later(0, 100, 0, 0));
    Due.is("10 no barn", NightLetIn.BAD, x.later(0, 0, 2, 0));
    Due.is("10 no barn", NightLetIn.BAD, x.later(0, 0, -1, 0));
    Due.is("10 no what", NightLetIn.BAD, x.later(0, 0, 0, 2));
    Due.is("10 no what", NightLetIn.BAD, x.later(0, 0, 0, -1));
    Due.is("10 bad ahead of nothing there", NightLetIn.BAD, x.later(1, 0, 2, 0));
    Due.is("10 now", 60, x.later(0, 0, 0, 0));
    Due.is("10 a day", 59, x.later(0, 1, 0, 0));
    Due.is("10 down to 0", 0, x.later(0, 99, 0, 0));
    Due.is("10 blue grows", 99, x.later(0, 99, 1, 1));
    x.mend(1, 1, 98);
    Due.is("10 blue is 99 at most", 99, x.later(0, 5, 1, 1));
    Due.row(x, 0, 0, 1, 7, -1, 0, 5, 1);
    Due.is("10 turned at once", 0, x.later(0, 1, 1, 1));
    Due.is("10 and not till day 5", 4, x.later(0, 5, 1, 1));
    Due.is("10 turned again", 0, x.later(0, 6, 1, 1));
    Due.is("10 behind the row", 2, x.later(0, 8, 1, 1));
    Due.is("10 the other", 0, x.later(0, 4, 0, 1));
    Due.is("10 the other", 1, x.later(0, 5, 0, 1));
    Due.law(x, "a+b");
    Due.is("10 by blue", 30 + 98 - 29, x.later(0, 1, 1, 0));
    Due.is("10 by blue", 60 + 0 + 1 + 2, x.later(0, 3, 0, 0));
  }

  private static void sleeps() {
    NightLetIn x = land();
    Due.is("11 n below", NightLetIn.BAD, x.sleeps(0, -1));
    Due.is("11 n above", NightLetIn.BAD, x.sleeps(0, 100));
    Due.is("11 today", 7, x.sleeps(0, 0));
    Due.is("11 day 6", 7, x.sleeps(0, 6));
    Due.is("11 day 7 is blue", 0, x.sleeps(0, 7));
    x.mend(0, 8, 20);
    Due.is("11 day 19: 41 by two, and 11", 3, x.sleeps(0, 19));
    Due.is("11 day 20 is blue", 0, x.sleeps(0, 20));
    x.mend(0, 0, 40);
    Due.is("11 40 by two", 7, x.sleeps(0, 0));
    x.mend(0, 0, 39);
    Due.is("11 39 by two, cut", 5, x.sleeps(0, 0));
    x.mend(3, 4, 1);
    Due.is("11 30 by two", 1 + 4 + 8, x.sleeps(0, 0));
    x.mend(1, 0, 29);
    Due.is("11 29 by two", 1 + 8, x.sleeps(0, 0));
    x.mend(1, 1, 19);
    Due.is("11 not blue yet", 1 + 8, x.sleeps(0, 0));
    x.mend(1, 1, 20);
    Due.is("11 blue", 1, x.sleeps(0, 0));
    Due.row(x, 0, 0, 1);
    Due.is("11 turned", 1 + 8, x.sleeps(0, 1));
  }

  private static void often() {
    NightLetIn x = land();
    Due.is("12 n below", NightLetIn.BAD, x.often(0, -1, 0));
    Due.is("12 n above", NightLetIn.BAD, x.often(0, 100, 0));
    Due.is("12 no boy", NightLetIn.BAD, x.often(0, 1, 4));
    Due.is("12 no boy", NightLetIn.BAD, x.often(0, 1, -2));
    Due.is("12 no days", 0, x.often(0, 0, 0));
    Due.is("12 till blue", 7, x.often(0, 99, 0));
    Due.is("12 five days", 5, x.often(0, 5, 0));
    Due.is("12 in none", 0, x.often(0, 99, 3));
    Due.is("12 never all", 0, x.often(0, 99, -1));
    x.mend(3, 4, 1);
    Due.is("12 all today, then 29 by two", 1, x.often(0, 99, -1));
    x.mend(0, 8, 20);
    Due.is("12 60 by two to 40 by two", 20, x.often(0, 99, 1));
    NightLetIn none = new NightLetIn();
    none.row(0, 0, 0);
    Due.is("12 no boys: all", 99, none.often(0, 99, -1));
  }

  private static void blue() {
    NightLetIn x = land();
    Due.is("13 no barn", NightLetIn.BAD, x.blue(0, 2));
    Due.is("13 no barn", NightLetIn.BAD, x.blue(0, -1));
    Due.is("13 by the limit", 7, x.blue(0, 0));
    x.mend(0, 1, 6);
    Due.is("13 tomorrow", 1, x.blue(0, 0));
    Due.row(x, 0, 0, 0);
    Due.is("13 turned", 8, x.blue(0, 0));
    x.mend(0, 1, 7);
    Due.is("13 today", 0, x.blue(0, 0));
    x.mend(0, 8, 20);
    x.row(0, 0, 60);
    Due.is("13 the latest that can be", 60 + 20, x.blue(0, 0));
    Due.is("13 the other", 20, x.blue(0, 1));
  }

  private static void keeps() {
    NightLetIn x = land();
    Due.is("14 no barn", NightLetIn.BAD, x.keeps(2, 0));
    Due.is("14 no barn", NightLetIn.BAD, x.keeps(-1, 0));
    Due.is("14 v below", NightLetIn.BAD, x.keeps(0, -1));
    Due.is("14 v above", NightLetIn.BAD, x.keeps(0, 100));
    Due.is("14 never less than 0", NightLetIn.NOT, x.keeps(0, 0));
    Due.is("14 at once", 0, x.keeps(0, 61));
    Due.is("14 a day", 1, x.keeps(0, 60));
    Due.is("14 down to 0", 60, x.keeps(0, 1));
    x.mend(0, 0, 99);
    Due.is("14 behind 99 days", 99, x.keeps(0, 1));
    x.mend(0, 2, 0);
    Due.is("14 not by 99 days", NightLetIn.NOT, x.keeps(0, 99));
    Due.law(x, "d<98?a;a-d");
    Due.is("14 not yet behind 98", 99, x.keeps(0, 99));
    Due.law(x, "d<99?a;0");
    Due.is("14 too late", NightLetIn.NOT, x.keeps(0, 99));
    Due.law(x, "b>4?3;a");
    Due.is("14 by blue, without turns", 6, x.keeps(0, 50));
  }

  private static void turnings() {
    NightLetIn x = new NightLetIn();
    Due.is("15 n below", NightLetIn.BAD, x.turnings(-1, -1));
    Due.is("15 n above", NightLetIn.BAD, x.turnings(61, -1));
    Due.is("15 k below", NightLetIn.BAD, x.turnings(5, -2));
    Due.is("15 k above", NightLetIn.BAD, x.turnings(5, 5));
    Due.is("15 no day", NightLetIn.BAD, x.turnings(0, 0));
    Due.is("15 no days", 0, x.turnings(0, -1));
    Due.is("15 no barns", 0, x.turnings(60, -1));
    Due.is("15 no barns", NightLetIn.NOT, x.turnings(60, 59));
    x.barn(0, 0);
    Due.is("15 seven days", 0, x.turnings(7, -1));
    Due.is("15 eight days", 1, x.turnings(8, -1));
    Due.is("15 at once", 0, x.turnings(8, 0));
    Due.is("15 then none", NightLetIn.NOT, x.turnings(8, 1));
    x.mend(0, 1, 7);
    Due.is("15 blue as it begins", NightLetIn.NOT, x.turnings(1, -1));
    Due.is("15 blue as it begins", NightLetIn.NOT, x.turnings(1, 0));
    Due.is("15 no day begins", 0, x.turnings(0, -1));
    x.mend(0, 1, 6);
    Due.is("15 not blue today", 0, x.turnings(1, -1));
    Due.is("15 blue tomorrow", 1, x.turnings(2, -1));
    x.barn(1, 0);
    x.mend(1, 1, 6);
    Due.is("15 two at once", NightLetIn.NOT, x.turnings(2, -1));
    Due.is("15 two at once", NightLetIn.NOT, x.turnings(2, 0));
    x.mend(1, 1, 5);
    Due.is("15 one by one", 2, x.turnings(3, -1));
    Due.is("15 the bluest first", 0, x.turnings(3, 0));
    Due.is("15 then the other", 1, x.turnings(3, 1));
    x.mend(0, 1, 3);
    x.mend(1, 1, 4);
    Due.is("15 the bluest first", 1, x.turnings(10, 0));
    x.mend(0, 1, 4);
    Due.is("15 of like ones the least", 0, x.turnings(10, 0));
  }

  private static void beds() {
    NightLetIn x = new NightLetIn();
    Due.is("16 no boys", 0, x.beds(-1));
    Due.is("16 no boy", NightLetIn.BAD, x.beds(0));
    Due.is("16 k below", NightLetIn.BAD, x.beds(-2));
    x.boy(0);
    Due.is("16 no barns", 0, x.beds(-1));
    Due.is("16 in none", NightLetIn.NOT, x.beds(0));
    x.barn(0, 20);
    x.barn(1, 30);
    x.boy(20);
    x.boy(15);
    x.boy(15);
    Due.is("16 three of four", 3, x.beds(-1));
    Due.is("16 the first", 0, x.beds(0));
    Due.is("16 lies there and does not sleep", 0, x.beds(1));
    Due.is("16 two together", 1, x.beds(2));
    Due.is("16 two together", 1, x.beds(3));
    x.mend(0, 8, 1);
    x.mend(1, 1, 1);
    Due.is("16 one is blue: 20 do for one", 1, x.beds(-1));
    Due.is("16 who lies in the other", 0, x.beds(0));
    Due.is("16 all may lie there, since one sleeps", 0, x.beds(1));
    x.mend(0, 1, 1);
    Due.is("16 both are blue", 0, x.beds(-1));
    Due.is("16 all are alike: barn 0", 0, x.beds(3));
    x.boy(1);
    x.boy(1);
    Due.is("16 six", 0, x.beds(-1));
    x.boy(1);
    Due.is("16 seven", NightLetIn.STATE, x.beds(-1));
    Due.is("16 seven", NightLetIn.STATE, x.beds(6));
    Due.is("16 bad ahead of state", NightLetIn.BAD, x.beds(7));
    leaveOut();
  }

  /** One barn that can do for one alone: the others must lie in none. */
  private static void leaveOut() {
    NightLetIn x = new NightLetIn();
    x.barn(0, 30);
    x.boy(30);
    x.boy(30);
    Due.is("16 one of two", 1, x.beds(-1));
    Due.is("16 the first sleeps", 0, x.beds(0));
    Due.is("16 the second in none", NightLetIn.NOT, x.beds(1));
    for (int barn = 1; barn < 5; barn++) x.barn(0, 6 + barn);
    for (int boy = 2; boy < 6; boy++) x.boy(10);
    Due.is("16 six boys, five barns", 4, x.beds(-1));
    int[] lies = {1, 1, 0, 0, 0, 4};
    for (int boy = 0; boy < 6; boy++) Due.is("16 boy " + boy, lies[boy], x.beds(boy));
  }

  private static void deal() {
    NightLetIn x = new NightLetIn();
    Due.is("17 no barns", 0, x.deal(99, -1));
    Due.is("17 no barn", NightLetIn.BAD, x.deal(99, 0));
    Due.is("17 v below", NightLetIn.BAD, x.deal(-1, -1));
    Due.is("17 v above", NightLetIn.BAD, x.deal(100, -1));
    Due.is("17 k below", NightLetIn.BAD, x.deal(1, -2));
    x.barn(0, 99);
    x.barn(1, 99);
    Due.is("17 no boys", 0, x.deal(99, -1));
    Due.is("17 no boys", 0, x.deal(99, 1));
    Due.boyIn(x, 10, 0);
    Due.boyIn(x, 20, 0);
    Due.boyIn(x, 15, 1);
    Due.boyIn(x, 0, -1);
    Due.is("17 nothing", 0, x.deal(0, -1));
    Due.is("17 one", 1, x.deal(15, -1));
    Due.is("17 the second barn", 0, x.deal(15, 0));
    Due.is("17 the second barn", 15, x.deal(15, 1));
    Due.is("17 not all is dealt", 15, x.deal(34, 1));
    Due.is("17 two", 2, x.deal(35, -1));
    Due.is("17 two", 20, x.deal(35, 0));
    Due.is("17 three", 3, x.deal(55, -1));
    Due.is("17 three", 40, x.deal(55, 0));
    Due.is("17 three", 15, x.deal(55, 1));
    Due.is("17 of like ones least to the first", 20, x.deal(54, 0));
    x.mend(1, 1, 7);
    Due.is("17 a blue one", 2, x.deal(99, -1));
    Due.is("17 a blue one", 0, x.deal(99, 1));
    x.mend(0, 3, 0);
    Due.is("17 who needs nothing", 1, x.deal(0, -1));
    Due.is("17 what it has does not count", 99, x.of(0, 0));
    Due.is("17 no barn", NightLetIn.BAD, x.deal(5, 2));
    dealToAll();
  }

  private static void dealToAll() {
    NightLetIn x = new NightLetIn();
    for (int barn = 0; barn < 5; barn++) x.barn(barn, 0);
    int[] needs = {30, 2, 3, 5, 7, 8, 9, 1};
    int[] lies = {0, 1, 2, 3, 3, 4, 4, 1};
    for (int boy = 0; boy < 8; boy++) Due.boyIn(x, needs[boy], lies[boy]);
    int[] gets = {30, 4, 3, 14, 18};
    for (int v = 69; v <= 99; v += 30) {
      Due.is("17 all eight", 8, x.deal(v, -1));
      for (int barn = 0; barn < 5; barn++) Due.is("17 barn " + barn, gets[barn], x.deal(v, barn));
    }
    Due.is("17 one too few", 7, x.deal(68, -1));
    Due.is("17 the dearest is left out", 0, x.deal(68, 0));
    Due.is("17 the others", 18, x.deal(68, 4));
    Due.is("17 seven", 7, x.deal(39, -1));
    Due.is("17 six", 6, x.deal(38, -1));
    Due.is("17 six: least to the first", 2, x.deal(38, 1));
    Due.is("17 six: then all they need", 18, x.deal(38, 4));
  }

  private static void nothingChanges() {
    NightLetIn x = land();
    x.mend(0, 1, 3);
    x.later(0, 9, 0, 0);
    x.sleeps(0, 9);
    x.often(0, 9, -1);
    x.blue(0, 0);
    x.keeps(0, 3);
    x.turnings(20, -1);
    x.beds(-1);
    x.deal(50, -1);
    x.drawn(3, 310, 0);
    Due.is("thoughts change no night", 60, x.of(0, 0));
    Due.is("thoughts change no blue", 3, x.of(0, 1));
    Due.is("thoughts move nobody", 0, x.of(1, 4));
    Due.is("thoughts are not led", 0, x.led(0));
  }
}
