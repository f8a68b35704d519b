/** Promises 1 to 9: barns, boys, lamps, the tape and the law. */
public final class LandTest {
  public static void main(String[] args) {
    newObject();
    barn();
    boy();
    boys();
    lamp();
    mend();
    of();
    feed();
    lawFaults();
    lawValues();
    lawStays();
    Due.end();
  }

  private static void newObject() {
    NightLetIn x = new NightLetIn();
    for (int what = 0; what <= 6; what++) Due.is("1 count(" + what + ")", 0, x.count(what));
    for (int what = 0; what <= 4; what++) Due.is("1 led(" + what + ")", 0, x.led(what));
    Due.is("1 thaw", 0, x.of(0, 7));
    Due.is("1 limit", 7, x.of(0, 8));
    for (int shelf = 0; shelf < 6; shelf++) Due.is("1 shelf", -11, x.taken(shelf, 0));
    Due.is("1 image", NightLetIn.STATE, x.back());
  }

  private static void barn() {
    NightLetIn x = new NightLetIn();
    Due.is("2 xy below", NightLetIn.BAD, x.barn(-1, 5));
    Due.is("2 xy above", NightLetIn.BAD, x.barn(100, 5));
    Due.is("2 night below", NightLetIn.BAD, x.barn(5, -1));
    Due.is("2 night above", NightLetIn.BAD, x.barn(5, 100));
    Due.is("2 nothing came", 0, x.count(0));
    Due.is("2 first", 0, x.barn(0, 0));
    Due.is("2 second", 1, x.barn(99, 99));
    Due.is("2 the same cell again", 2, x.barn(99, 1));
    Due.is("2 night", 99, x.of(1, 0));
    Due.is("2 blue at first", 0, x.of(1, 1));
    Due.is("2 latch at first", 1, x.of(1, 2));
    Due.is("2 cell", 99, x.of(1, 9));
    Due.is("2 fourth", 3, x.barn(1, 1));
    Due.is("2 fifth", 4, x.barn(1, 1));
    Due.is("2 full", NightLetIn.FULL, x.barn(1, 1));
    Due.is("2 bad ahead of full", NightLetIn.BAD, x.barn(100, 1));
    Due.is("2 count", 5, x.count(0));
  }

  private static void boy() {
    NightLetIn x = new NightLetIn();
    Due.is("3 below", NightLetIn.BAD, x.boy(-1));
    Due.is("3 above", NightLetIn.BAD, x.boy(31));
    Due.is("3 none came", 0, x.count(1));
    for (int i = 0; i < 8; i++) Due.is("3 number", i, x.boy(i == 0 ? 0 : 30));
    Due.is("3 full", NightLetIn.FULL, x.boy(1));
    Due.is("3 bad ahead of full", NightLetIn.BAD, x.boy(31));
    Due.is("3 needs", 30, x.of(7, 3));
    Due.is("3 lies nowhere", -1, x.of(7, 4));
    Due.is("3 count", 8, x.count(1));
  }

  private static void boys() {
    NightLetIn x = new NightLetIn();
    x.barn(5, 40);
    Due.is("4 no shelf", NightLetIn.BAD, x.boys(-1, 0, 1));
    Due.is("4 no shelf", NightLetIn.BAD, x.boys(6, 0, 1));
    Due.is("4 none wanted", NightLetIn.BAD, x.boys(0, 0, 0));
    Due.is("4 too many", NightLetIn.BAD, x.boys(0, 0, 9));
    Due.is("4 the row is missing", 0, x.boys(0, 0, 1));
    Due.is("4 bad ahead of a missing row", NightLetIn.BAD, x.boys(0, 0, 9));
    for (int sort = 1; sort <= 4; sort++) {
      Due.row(x, 0, sort, 1, 0);
      Due.is("4 another sort", -12, x.boys(0, 0, 1));
      Due.is("4 another sort, below 0", -12, x.boys(0, -1, 1));
      Due.is("4 bad ahead of another sort", NightLetIn.BAD, x.boys(0, 0, 0));
    }
    x.body(0);
    x.keep(0, 0);
    Due.is("4 a body", -12, x.boys(0, 0, 1));
    Due.row(x, 0, 0, 10, 0, 30, -1, 0, 0, 31, 0, 5);
    Due.is("4 below 0", 0, x.boys(0, -1, 1));
    Due.is("4 far below 0", 0, x.boys(0, Integer.MIN_VALUE, 8));
    Due.is("4 behind the end", 0, x.boys(0, Integer.MAX_VALUE, 8));
    Due.is("4 at the end", 0, x.boys(0, 9, 8));
    Due.is("4 the end within a two", 0, x.boys(0, 8, 1));
    Due.is("4 no such needs", 0, x.boys(0, 6, 1));
    Due.is("4 none so far", 0, x.count(1));
    Due.is("4 as many as told", 1, x.boys(0, 0, 1));
    Due.is("4 till one is not as it may be", 3, x.boys(0, 0, 8));
    Due.is("4 count", 4, x.count(1));
    Due.is("4 needs", 30, x.of(2, 3));
    Due.is("4 barn", -1, x.of(2, 4));
    Due.is("4 barn", 0, x.of(3, 4));
    Due.row(x, 0, 0, 99, 12, 0, 99);
    Due.is("4 from an odd place", 1, x.boys(0, 1, 8));
    Due.is("4 needs", 12, x.of(4, 3));
    Due.row(x, 0, 0, 5, 1);
    Due.is("4 no such barn", 0, x.boys(0, 0, 1));
    Due.row(x, 0, 0, 5, -2);
    Due.is("4 no such barn", 0, x.boys(0, 0, 1));
    Due.row(x, 0, 0, -1, 0);
    Due.is("4 needs below 0", 0, x.boys(0, 0, 1));
    x.row(0, 0, 16);
    Due.is("4 till full", 3, x.boys(0, 0, 8));
    Due.is("4 full", 0, x.boys(0, 0, 8));
    Due.is("4 count", 8, x.count(1));
    Due.is("4 they are no changes", 0, x.count(4));
  }

  private static void lamp() {
    NightLetIn x = new NightLetIn();
    Due.is("5 xy below", NightLetIn.BAD, x.lamp(-1, 5));
    Due.is("5 xy above", NightLetIn.BAD, x.lamp(100, 5));
    Due.is("5 bright below", NightLetIn.BAD, x.lamp(5, -1));
    Due.is("5 bright above", NightLetIn.BAD, x.lamp(5, 20));
    for (int i = 0; i < 6; i++) Due.is("5 number", i, x.lamp(i == 0 ? 0 : 99, i == 0 ? 0 : 19));
    Due.is("5 full", NightLetIn.FULL, x.lamp(1, 1));
    Due.is("5 bad ahead of full", NightLetIn.BAD, x.lamp(1, 20));
    Due.is("5 cell", 99, x.of(5, 5));
    Due.is("5 bright", 19, x.of(5, 6));
    Due.is("5 count", 6, x.count(2));
  }

  private static void mend() {
    NightLetIn x = new NightLetIn();
    x.barn(1, 50);
    x.barn(2, 60);
    x.boy(7);
    x.lamp(3, 4);
    int[] least = {0, 0, 0, 0, -1, 0, 0, 0, 1};
    int[] most = {99, 99, 9, 30, 1, 99, 19, 9, 20};
    int[] first = {50, 0, 1, 7, -1, 3, 4, 0, 7};
    for (int what = 0; what <= 8; what++) {
      String name = "6 what " + what;
      Due.is(name + " below", NightLetIn.VOID, x.mend(0, what, least[what] - 1));
      Due.is(name + " above", NightLetIn.VOID, x.mend(0, what, most[what] + 1));
      Due.is(name + " number below", NightLetIn.VOID, x.mend(-1, what, most[what]));
      Due.is(name + " number above", NightLetIn.VOID, x.mend(what <= 2 ? 2 : 1, what, most[what]));
      Due.is(name + " as it was", first[what], x.of(0, what));
      Due.is(name + " most", first[what], x.mend(0, what, most[what]));
      Due.is(name + " least", most[what], x.mend(0, what, least[what]));
      Due.is(name + " stands", least[what], x.of(0, what));
    }
    Due.is("6 what below", NightLetIn.VOID, x.mend(0, -1, 1));
    Due.is("6 what above", NightLetIn.VOID, x.mend(0, 9, 1));
    Due.is("6 the other barn", 60, x.of(1, 0));
    int before = x.count(4);
    x.mend(0, 0, x.of(0, 0));
    Due.is("6 the same is no change", before, x.count(4));
  }

  private static void of() {
    NightLetIn x = new NightLetIn();
    for (int what = 0; what <= 10; what++) {
      boolean alone = what == 7 || what == 8;
      if (!alone) Due.is("7 nothing there", NightLetIn.VOID, x.of(0, what));
      Due.is("7 number below", NightLetIn.VOID, x.of(-1, what));
      if (alone) Due.is("7 another number", NightLetIn.VOID, x.of(1, what));
    }
    x.barn(44, 50);
    x.lamp(45, 8);
    x.lamp(33, 5);
    x.lamp(99, 10);
    Due.is("7 cell", 44, x.of(0, 9));
    Due.is("7 light", 7 + 3, x.of(0, 10));
    x.mend(2, 6, 11);
    Due.is("7 light from afar", 7 + 3 + 1, x.of(0, 10));
    Due.is("7 what below", NightLetIn.VOID, x.of(0, -1));
    Due.is("7 what above", NightLetIn.VOID, x.of(0, 11));
    Due.is("7 a lamp's cell", 99, x.of(2, 5));
    Due.is("7 no barn", NightLetIn.VOID, x.of(1, 9));
    Due.is("7 no barn", NightLetIn.VOID, x.of(1, 10));
  }

  private static void feed() {
    NightLetIn x = new NightLetIn();
    Due.is("8 below", NightLetIn.BAD, x.feed(-1));
    Due.is("8 above", NightLetIn.BAD, x.feed(256));
    for (int i = 1; i <= 120; i++) Due.is("8 how many", i, x.feed(i % 2 == 0 ? 255 : 0));
    Due.is("8 full", NightLetIn.FULL, x.feed(0));
    Due.is("8 bad ahead of full", NightLetIn.BAD, x.feed(256));
    Due.is("8 count", 120, x.count(3));
    x.law();
    Due.is("8 empty again", 1, x.feed('a'));
  }

  private static void fault(String text, int place) {
    NightLetIn x = new NightLetIn();
    Due.is("9 law of " + text, place < 0 ? 1 : -100 - place, Due.law(x, text));
    Due.is("9 the tape is empty behind " + text, 0, x.count(3));
  }

  private static void lawFaults() {
    fault("", 0);
    fault("a", -1);
    fault("a-", 2);
    fault(" a", 0);
    fault("a b", 1);
    fault("ab", 1);
    fault("1a", 1);
    fault("a1", 1);
    fault("9999", -1);
    fault("0000", -1);
    fault("10000", 4);
    fault("a;", 2);
    fault(";a", 0);
    fault("a;;a", 2);
    fault("a?b", -1);
    fault("a?", 2);
    fault("?a", 0);
    fault("a?b?c", 3);
    fault("a?b;l?d", -1);
    fault("a?b?d", 3);
    fault("(a?b)", 2);
    fault("(a;b)", 2);
    fault("(a", 2);
    fault("a)", 1);
    fault("()", 1);
    fault("(a)", -1);
    fault("(a)b", 3);
    fault("(a)1", 3);
    fault("a<b<l", 3);
    fault("a<b=l", 3);
    fault("a<b&l>t|n=d", -1);
    fault("(a<b)<l", -1);
    fault("a<(b<l)", -1);
    fault("a<b?l>t;n=1", -1);
    fault("a<b+1>l", 5);
    fault("a++b", 2);
    fault("a--b", -1);
    fault("a-!b", -1);
    fault("a+-!-b", -1);
    fault("a!b", 1);
    fault("*a", 0);
    fault("a||b", 2);
    fault("a==b", 2);
    fault("x", 0);
    fault("A", 0);
    fault("a\u00e9", 1);
    fault("!!!!!!a", -1);
    fault("!!!!!!!a", 6);
    fault("------1", -1);
    fault("-------1", 6);
    fault("((((((a))))))", -1);
    fault("(((((((a)))))))", 6);
    fault("((((((!a", 6);
    fault("(!(-(-a))+!(a)", 14);
    fault("(((((a+!b)))))", -1);
    fault("(((((a+!-b)))))", 8);
    fault("!(((((a)))))*!(((((b)))))", -1);
    fault("!!!!!!a*!!!!!!b+------l", -1);
    fault("!!!!!!a*!!!!!!!b", 14);
    fault("a?!!!!!!b", -1);
    fault("a?!!!!!!!b", 8);
    fault("!!!!!!a;!!!!!!!b", 14);
    fault("((((((a", 7);
    fault("(((a))", 6);
    StringBuilder longest = new StringBuilder("a");
    while (longest.length() < 119) longest.append("+1");
    fault(longest.toString(), -1);
    fault(longest + "+", 120);
    StringBuilder lines = new StringBuilder("a");
    while (lines.length() < 119) lines.append(";a");
    fault(lines.toString(), -1);
  }

  /** What a law makes of NIGHT 60, BLUE 5, LATCH 3, THAW 4 with two boys in the barn. */
  private static void value(String text, int want) {
    NightLetIn x = new NightLetIn();
    x.barn(44, 60);
    x.mend(0, 1, 5);
    x.mend(0, 2, 3);
    x.mend(0, 7, 4);
    x.boy(1);
    x.boy(1);
    x.boy(1);
    x.mend(0, 4, 0);
    x.mend(2, 4, 0);
    Due.is("9 law of " + text, 1, Due.law(x, text));
    x.row(0, 0, 0);
    Due.is("9 in thought " + text, want, x.later(0, 1, 0, 0));
    x.day(-1);
    Due.is("9 in deed " + text, want, x.of(0, 0));
  }

  private static void lawValues() {
    value("a", 60);
    value("b", 5);
    value("l", 3);
    value("t", 4);
    value("n", 2);
    value("d", 0);
    value("a-l*2-t/2", 52);
    value("7-3-2", 2);
    value("7-(3-2)", 6);
    value("80/4/5", 4);
    value("7+20%6*3", 13);
    value("2+3*4", 14);
    value("(2+3)*4", 20);
    value("100", 99);
    value("0-1", 0);
    value("-1+99", 98);
    value("--9", 9);
    value("-2*-3", 6);
    value("50+-7/2", 47);
    value("50+-7%3", 49);
    value("50+7/0", 50);
    value("50+7%0", 50);
    value("50+(0|0)", 50);
    value("50+(0|7)", 51);
    value("50+(-7|0)", 51);
    value("50+(7&0)", 50);
    value("50+(7&2)", 51);
    value("50+(1|0&0)", 51);
    value("50+(1<2)", 51);
    value("50+(2<2)", 50);
    value("50+(2=2)", 51);
    value("50+(2=3)", 50);
    value("50+(3>2)", 51);
    value("50+(2>2)", 50);
    value("50+!0", 51);
    value("50+!7", 50);
    value("50+!!7", 51);
    value("50+!7*9", 50);
    value("50+!0*9", 59);
    value("1+2<4&3>2", 1);
    value("9999*9999*9999*9999/9999/9999", 10);
    value("0|1?0|7;80", 1);
    value("0?70;80", 80);
    value("7?70;80", 70);
    value("-7?70;80", 70);
    value("0?70", 0);
    value("0?70;0?80", 0);
    value("0?70;a>50?a-1;9", 59);
    value("a>50?a-l;b=5?1", 57);
    value("70;80", 70);
    value("b<7?a-l-t/3;a-l*n", 56);
    StringBuilder longest = new StringBuilder("-a");
    while (longest.length() < 120) longest.append("+2");
    value(longest.toString(), 59 * 2 - 60);
    StringBuilder lines = new StringBuilder("!a?9");
    while (lines.length() < 116) lines.append(";0?8");
    value(lines + ";1?7", 7);
    value("1|0&1<0+1*((((((1|0&1<0+1*2))))))", 1);
  }

  private static void lawStays() {
    NightLetIn x = new NightLetIn();
    x.barn(0, 50);
    x.mend(0, 7, 5);
    x.row(0, 0, 0);
    Due.is("9 without a text", 50 - 1 - 1, x.later(0, 1, 0, 0));
    Due.is("9 a fault", -102, Due.law(x, "a-"));
    Due.is("9 still without a text", 48, x.later(0, 1, 0, 0));
    Due.is("9 days in thought", 1, Due.law(x, "d*10"));
    Due.is("9 none passed", 0, x.later(0, 1, 0, 0));
    Due.is("9 one passed", 10, x.later(0, 2, 0, 0));
    Due.is("9 nine passed", 90, x.later(0, 10, 0, 0));
    Due.is("9 another fault", -101, Due.law(x, "aa"));
    Due.is("9 the older law stays", 90, x.later(0, 10, 0, 0));
    Due.is("9 the law is no change", 1, x.count(4));
    x.day(-1);
    x.day(-1);
    Due.is("9 none pass in deed", 0, x.of(0, 0));
  }
}
