/** The edges that section 1 of the document names, each sentence with a method of its own, in the document's order. */
public final class LandEdgesTest {
  private static final int BAD = NightLetIn.BAD, FULL = NightLetIn.FULL, VOID = NightLetIn.VOID;

  public static void main(String[] args) {
    cells();
    barnNumbers();
    nightRange();
    blueRange();
    latchRange();
    boyNumbers();
    needsRange();
    barnOfABoy();
    lampNumbers();
    brightRange();
    thawRange();
    limitRange();
    numberOfTheLand();
    rowIsMissing();
    rowEnds();
    rowEndsWithinATwo();
    oneIsNotAsItMayBe();
    boysAreFull();
    thoseFromARowLieThere();
    fromBelowZero();
    tapeIsFull();
    tapeIsEmptyBehindLaw();
    whatGoesOn();
    endsTooEarly();
    digits();
    noBlanks();
    sixOpen();
    oneComparison();
    oneQuestionALine();
    whichLineCounts();
    noLineCounts();
    intsWrap();
    towardZero();
    byZero();
    oneOrZero();
    heldWithin();
    withoutAText();
    daysPassed();
    needsOrMore();
    cutByHowMany();
    notBlue();
    liesInNone();
    blueOneMore();
    turnedIsZero();
    lawSeesTheDayAsItBegan();
    otherBytesTurnNone();
    whatLacksTurnsNone();
    Due.end();
  }

  /** "CELLS X, Y (0 .. 9)", told as 10 Y and X: the end of one line is far from the beginning of the next. */
  private static void cells() {
    NightLetIn x = new NightLetIn();
    int[] off = {Integer.MIN_VALUE, -1, 100, Integer.MAX_VALUE};
    for (int xy : off) {
      Due.is("cell of a barn " + xy, BAD, x.barn(xy, 1));
      Due.is("cell of a lamp " + xy, BAD, x.lamp(xy, 1));
    }
    Due.is("the first cell", 0, x.barn(0, 1));
    Due.is("the last cell", 1, x.barn(99, 1));
    Due.is("the end of a line", 2, x.barn(9, 1));
    Due.is("the beginning of the next", 3, x.barn(10, 1));
    x.lamp(9, 10);
    Due.is("nine to the left and one down is ten", 0, x.of(3, 10));
    x.mend(0, 6, 11);
    Due.is("nine to the left and one down is ten", 1, x.of(3, 10));
    x.mend(0, 6, 18);
    Due.is("the first cell is nine from there", 9, x.of(0, 10));
    Due.is("the last cell is nine from there", 9, x.of(1, 10));
    for (int xy : off) Due.is("a lamp goes to no such cell", VOID, x.mend(0, 5, xy));
    Due.is("a lamp goes to the last cell", 9, x.mend(0, 5, 99));
    Due.is("a lamp goes to the first cell", 99, x.mend(0, 5, 0));
  }

  /** "BARNS 0 .. 4, as they come". */
  private static void barnNumbers() {
    NightLetIn x = new NightLetIn();
    for (int i = 0; i < 5; i++) {
      Due.is("not there yet", VOID, x.of(i, 0));
      Due.is("as they come", i, x.barn(7, 10 + i));
    }
    Due.is("a sixth", FULL, x.barn(7, 15));
    Due.is("five stay", 5, x.count(0));
    for (int i = 0; i < 5; i++) Due.is("each as it came", 10 + i, x.of(i, 0));
    Due.is("no barn 5", VOID, x.of(5, 0));
  }

  /** "NIGHT (0 .. 99)". */
  private static void nightRange() {
    NightLetIn x = new NightLetIn();
    Due.is("-1", BAD, x.barn(0, -1));
    Due.is("100", BAD, x.barn(0, 100));
    Due.is("0", 0, x.barn(0, 0));
    Due.is("99", 1, x.barn(0, 99));
    Due.is("told -1", VOID, x.mend(0, 0, -1));
    Due.is("told 100", VOID, x.mend(0, 0, 100));
    Due.is("told 99", 0, x.mend(0, 0, 99));
    Due.is("told 0", 99, x.mend(0, 0, 0));
  }

  /** "BLUE (0 .. 99; 0 at first)". */
  private static void blueRange() {
    NightLetIn x = new NightLetIn();
    x.barn(0, 5);
    Due.is("at first", 0, x.of(0, 1));
    Due.is("-1", VOID, x.mend(0, 1, -1));
    Due.is("100", VOID, x.mend(0, 1, 100));
    Due.is("99", 0, x.mend(0, 1, 99));
    Due.is("0", 99, x.mend(0, 1, 0));
  }

  /** "LATCH (0 .. 9; 1 at first)". */
  private static void latchRange() {
    NightLetIn x = new NightLetIn();
    x.barn(0, 5);
    Due.is("at first", 1, x.of(0, 2));
    Due.is("-1", VOID, x.mend(0, 2, -1));
    Due.is("10", VOID, x.mend(0, 2, 10));
    Due.is("9", 1, x.mend(0, 2, 9));
    Due.is("0", 9, x.mend(0, 2, 0));
  }

  /** "BOYS 0 .. 7, as they come". */
  private static void boyNumbers() {
    NightLetIn x = new NightLetIn();
    for (int i = 0; i < 8; i++) {
      Due.is("not there yet", VOID, x.of(i, 3));
      Due.is("as they come", i, x.boy(10 + i));
    }
    Due.is("a ninth", FULL, x.boy(18));
    Due.is("eight stay", 8, x.count(1));
    for (int i = 0; i < 8; i++) Due.is("each as he came", 10 + i, x.of(i, 3));
    Due.is("no boy 8", VOID, x.of(8, 3));
  }

  /** "NEEDS (0 .. 30)". */
  private static void needsRange() {
    NightLetIn x = new NightLetIn();
    Due.is("-1", BAD, x.boy(-1));
    Due.is("31", BAD, x.boy(31));
    Due.is("0", 0, x.boy(0));
    Due.is("30", 1, x.boy(30));
    Due.is("told -1", VOID, x.mend(0, 3, -1));
    Due.is("told 31", VOID, x.mend(0, 3, 31));
    Due.is("told 30", 0, x.mend(0, 3, 30));
    Due.is("told 0", 30, x.mend(0, 3, 0));
  }

  /** "BARN (one that is there, or -1: none, as at first)". */
  private static void barnOfABoy() {
    NightLetIn x = new NightLetIn();
    x.boy(3);
    Due.is("none at first", -1, x.of(0, 4));
    Due.is("-2", VOID, x.mend(0, 4, -2));
    for (int barn = 0; barn < 5; barn++) {
      Due.is("one not there", VOID, x.mend(0, 4, barn));
      x.barn(barn, 9);
      Due.is("one that is there", barn - 1, x.mend(0, 4, barn));
    }
    Due.is("5", VOID, x.mend(0, 4, 5));
    Due.is("none again", 4, x.mend(0, 4, -1));
  }

  /** "LAMPS 0 .. 5, as they come". */
  private static void lampNumbers() {
    NightLetIn x = new NightLetIn();
    for (int i = 0; i < 6; i++) {
      Due.is("not there yet", VOID, x.of(i, 6));
      Due.is("as they come", i, x.lamp(10 + i, i));
    }
    Due.is("a seventh", FULL, x.lamp(9, 9));
    Due.is("six stay", 6, x.count(2));
    for (int i = 0; i < 6; i++) Due.is("each as it came", 10 + i, x.of(i, 5));
    Due.is("no lamp 6", VOID, x.of(6, 6));
  }

  /** "BRIGHT (0 .. 19)". */
  private static void brightRange() {
    NightLetIn x = new NightLetIn();
    Due.is("-1", BAD, x.lamp(0, -1));
    Due.is("20", BAD, x.lamp(0, 20));
    Due.is("0", 0, x.lamp(0, 0));
    Due.is("19", 1, x.lamp(0, 19));
    Due.is("told -1", VOID, x.mend(0, 6, -1));
    Due.is("told 20", VOID, x.mend(0, 6, 20));
    Due.is("told 19", 0, x.mend(0, 6, 19));
    Due.is("told 0", 19, x.mend(0, 6, 0));
  }

  /** "THAW (0 .. 9; 0 at first)". */
  private static void thawRange() {
    NightLetIn x = new NightLetIn();
    Due.is("at first", 0, x.of(0, 7));
    Due.is("-1", VOID, x.mend(0, 7, -1));
    Due.is("10", VOID, x.mend(0, 7, 10));
    Due.is("9", 0, x.mend(0, 7, 9));
    Due.is("0", 9, x.mend(0, 7, 0));
  }

  /** "LIMIT (1 .. 20; 7 at first)". */
  private static void limitRange() {
    NightLetIn x = new NightLetIn();
    Due.is("at first", 7, x.of(0, 8));
    Due.is("0", VOID, x.mend(0, 8, 0));
    Due.is("21", VOID, x.mend(0, 8, 21));
    Due.is("20", 7, x.mend(0, 8, 20));
    Due.is("1", 20, x.mend(0, 8, 1));
  }

  /** "THAW (7), LIMIT (8; number 0 for these, another: BAD)", which of() and mend() tell as VOID. */
  private static void numberOfTheLand() {
    NightLetIn x = new NightLetIn();
    x.barn(0, 1);
    x.barn(0, 1);
    for (int what = 7; what <= 8; what++) {
      Due.is("mend number 1", VOID, x.mend(1, what, 5));
      Due.is("mend number -1", VOID, x.mend(-1, what, 5));
      Due.is("of number 1", VOID, x.of(1, what));
      Due.is("of number -1", VOID, x.of(-1, what));
    }
    Due.is("thaw is as it was", 0, x.of(0, 7));
    Due.is("limit is as it was", 7, x.of(0, 8));
    Due.is("no change was kept", 0, x.count(4));
  }

  /** "it ends where the row is missing": a SHELF that holds nothing, at first or again. */
  private static void rowIsMissing() {
    NightLetIn x = new NightLetIn();
    for (int shelf = 0; shelf < 6; shelf++) Due.is("nothing at first", 0, x.boys(shelf, 0, 8));
    x.row(2, 0, 4);
    x.keep(2, -1);
    Due.is("nothing again", 0, x.boys(2, 0, 1));
    Due.is("none came", 0, x.count(1));
  }

  /** "it ends where the row .. ends": its last two come, with just so many elements. */
  private static void rowEnds() {
    NightLetIn x = new NightLetIn();
    x.row(0, 0, 0);
    Due.is("an empty row", 0, x.boys(0, 0, 1));
    Due.row(x, 0, 0, 5, -1);
    Due.is("just one", 1, x.boys(0, 0, 1));
    Due.is("one, where more are wanted", 1, x.boys(0, 0, 8));
    Due.row(x, 0, 0, 1, -1, 2, -1, 3, -1);
    Due.is("the last one", 1, x.boys(0, 4, 2));
    Due.is("the place behind the last", 0, x.boys(0, 6, 1));
    Due.is("further behind", 0, x.boys(0, 60, 1));
    Due.is("the last came", 3, x.of(2, 3));
  }

  /** "(within a two, too)". */
  private static void rowEndsWithinATwo() {
    NightLetIn x = new NightLetIn();
    Due.row(x, 0, 0, 5);
    Due.is("one element", 0, x.boys(0, 0, 1));
    Due.row(x, 0, 0, 5, -1, 6);
    Due.is("three elements", 1, x.boys(0, 0, 2));
    Due.is("from the third", 0, x.boys(0, 2, 1));
    Due.is("one came", 1, x.count(1));
  }

  /** "one is not as it may be": those ahead came, those behind do not. */
  private static void oneIsNotAsItMayBe() {
    int[][] wrong = {{31, -1}, {-1, -1}, {127, 0}, {-128, 0}, {5, -2}, {5, 1}, {5, 127}, {5, -128}};
    for (int[] w : wrong) {
      NightLetIn x = new NightLetIn();
      x.barn(0, 9);
      Due.row(x, 0, 0, 30, 0, w[0], w[1], 0, -1, 1, 0);
      String name = w[0] + " in " + w[1];
      Due.is(name + ": the one ahead came", 1, x.boys(0, 0, 4));
      Due.is(name + ": none behind it", 1, x.count(1));
      Due.is(name + ": not at once either", 0, x.boys(0, 2, 4));
      Due.is(name + ": those behind by themselves", 2, x.boys(0, 4, 4));
      Due.is(name + ": needs", 30, x.of(0, 3));
      Due.is(name + ": barn", 0, x.of(2, 4));
    }
  }

  /** "or BOYS are FULL: those ahead came". */
  private static void boysAreFull() {
    NightLetIn x = new NightLetIn();
    Due.row(x, 0, 0, 1, -1, 2, -1, 3, -1, 4, -1);
    for (int i = 0; i < 6; i++) x.boy(0);
    Due.is("two of four", 2, x.boys(0, 0, 4));
    Due.is("full", 0, x.boys(0, 0, 1));
    Due.is("eight", 8, x.count(1));
    Due.is("the last that came", 2, x.of(7, 3));
  }

  /** Those that came from a row lie where they are told to, as by mend(). */
  private static void thoseFromARowLieThere() {
    NightLetIn x = new NightLetIn();
    x.barn(0, 20);
    Due.row(x, 0, 0, 10, 0, 10, 0, 0, -1, 7, 0);
    Due.is("two and one in none", 3, x.boys(0, 0, 3));
    Due.is("20 by two", 3, x.day(-1));
    x.mend(0, 0, 29);
    Due.is("one more", 1, x.boys(0, 6, 1));
    Due.is("29 by three", 8, x.day(-1));
    Due.is("their coming is no change", 1, x.count(4));
  }

  /** "0 with i below 0". */
  private static void fromBelowZero() {
    NightLetIn x = new NightLetIn();
    x.row(0, 0, 8);
    Due.is("-1", 0, x.boys(0, -1, 1));
    Due.is("-2", 0, x.boys(0, -2, 8));
    Due.is("far", 0, x.boys(0, Integer.MIN_VALUE, 8));
    Due.is("on a shelf that holds nothing", 0, x.boys(1, -1, 1));
    Due.is("none came", 0, x.count(1));
  }

  /** "THE TAPE (at most 120 bytes)": the longest text is a law; one byte more is refused and is not on it. */
  private static void tapeIsFull() {
    NightLetIn x = new NightLetIn();
    x.barn(0, 1);
    x.feed('1');
    x.feed('0');
    for (int i = 0; i < 59; i++) {
      x.feed('+');
      x.feed('1');
    }
    Due.is("120 bytes", 120, x.count(3));
    Due.is("one more", FULL, x.feed('+'));
    Due.is("120 bytes still", 120, x.count(3));
    Due.is("a law", 1, x.law());
    x.day(-1);
    Due.is("all of it counts", 69, x.of(0, 0));
  }

  /** "THE TAPE is empty then", whether it was a law or not. */
  private static void tapeIsEmptyBehindLaw() {
    NightLetIn x = new NightLetIn();
    x.barn(0, 9);
    Due.is("a law", 1, Due.law(x, "a+1"));
    Due.is("empty", 0, x.count(3));
    Due.is("a fault", -102, Due.law(x, "a+"));
    Due.is("empty", 0, x.count(3));
    Due.is("an empty one is none", -100, x.law());
    Due.is("nothing is left of it", 1, x.feed('5'));
    Due.is("a law again", 1, x.law());
    x.day(-1);
    Due.is("the latest counts", 5, x.of(0, 0));
  }

  private static final String BEGINS = "0123456789abltnd", OPENS = "(!-", SIGNS = "|&<=>+-*/%";

  /** FAULT: "the first byte with which no TEXT goes on", for every byte behind many beginnings. */
  private static void whatGoesOn() {
    goesOn("", BEGINS, OPENS);
    goesOn("a;", BEGINS, OPENS);
    goesOn("a?", BEGINS, OPENS);
    goesOn("a+", BEGINS, OPENS);
    goesOn("!", BEGINS, OPENS);
    goesOn("-", BEGINS, OPENS);
    goesOn("(", "", BEGINS + OPENS);
    goesOn("((((((", "", BEGINS);
    goesOn("!-!-!-", BEGINS, "");
    goesOn("a", "", SIGNS + "?;");
    goesOn("1", "0123456789", SIGNS + "?;");
    goesOn("1234", "", SIGNS + "?;");
    goesOn("(a", ")", SIGNS);
    goesOn("(12", ")", "0123456789" + SIGNS);
    goesOn("(a)", "", SIGNS + "?;");
    goesOn("a<b", "", "|&+-*/%?;");
    goesOn("a=b*2", "0123456789", "|&+-*/%?;");
    goesOn("(a>b", ")", "|&+-*/%");
    goesOn("a<b|l", "", SIGNS + "?;");
    goesOn("a?b", "", SIGNS + ";");
    goesOn("a?(b)", "", SIGNS + ";");
    goesOn("a?b;l", "", SIGNS + "?;");
  }

  /** Behind a beginning: bytes that make it a text, bytes with which one goes on, and all others. */
  private static void goesOn(String ahead, String ends, String more) {
    for (int letter = 0; letter < 256; letter++) {
      int place = ahead.length();
      boolean isText = ends.indexOf(letter) >= 0;
      int want = isText ? 1 : more.indexOf(letter) >= 0 ? -100 - place - 1 : -100 - place;
      Due.is(ahead + " and byte " + letter, want, Due.law(new NightLetIn(), ahead + (char) letter));
    }
  }

  /** FAULT: "the length, if it ends too early". */
  private static void endsTooEarly() {
    String[] early = {"", "(", "!", "-", "a+", "a<", "a?", "a;", "(a", "(a+b", "a?b;", "((((((", "((a)", "1*(2"};
    for (String text : early) Due.is("fault of " + text, -100 - text.length(), Due.law(new NightLetIn(), text));
  }

  /** "a number (1 to 4 digits)". */
  private static void digits() {
    Due.is("four", 1, Due.law(new NightLetIn(), "9999"));
    Due.is("five", -104, Due.law(new NightLetIn(), "99999"));
    Due.is("five, though 0 is ahead", -104, Due.law(new NightLetIn(), "00001"));
    Due.is("five further on", -107, Due.law(new NightLetIn(), "a+-12345"));
    Due.is("four and four", 1, Due.law(new NightLetIn(), "1234+1234"));
    Due.is("what four are", 1, night("1234=1000+234"));
    Due.is("0 ahead tells nothing", 7, night("0007"));
  }

  /** "No blanks." */
  private static void noBlanks() {
    for (char blank : new char[] {' ', '\t', '\n', '\r', 0, 160}) {
      Due.is("ahead", -100, Due.law(new NightLetIn(), blank + "a"));
      Due.is("between", -101, Due.law(new NightLetIn(), "a" + blank + "+b"));
      Due.is("between", -102, Due.law(new NightLetIn(), "a+" + blank + "b"));
      Due.is("behind", -103, Due.law(new NightLetIn(), "a+b" + blank));
      Due.is("behind ;", -102, Due.law(new NightLetIn(), "a;" + blank + "b"));
    }
  }

  /** "At most 6 of ( ! - ahead of an O are open at once." */
  private static void sixOpen() {
    String[] six = {"((((((a))))))", "!!!!!!a", "------a", "(!-(!-a))", "((((((a))))))+!!!!!!b", "(((((-a+-b)))))",
        "((((((a))))))-((((((b))))))", "!!!!!!a<------b?(((((!l)))));-!-!-!t"};
    for (String text : six) Due.is("six: " + text, 1, Due.law(new NightLetIn(), text));
    String[] seven = {"((((((", "!!!!!!", "------", "(!-(!-", "((((((a))))))+!!!!!!", "(((((-a+-", "!(((((a-b)+(((((",
        "a?!!!!!!", "a;------", "(((((a?"};
    String open = "(!-";
    for (int i = 0; i < 3; i++) {
      Due.is("a seventh", -106, Due.law(new NightLetIn(), seven[i] + open.charAt(i) + "a"));
      Due.is("a seventh", -106, Due.law(new NightLetIn(), seven[3] + open.charAt(i) + "a"));
      Due.is("a seventh further on", -120, Due.law(new NightLetIn(), seven[4] + open.charAt(i) + "a"));
      Due.is("a seventh in a second line", -108, Due.law(new NightLetIn(), seven[8] + open.charAt(i) + "a"));
      Due.is("a seventh behind ?", -108, Due.law(new NightLetIn(), seven[7] + open.charAt(i) + "a"));
    }
    Due.is("a seventh within five and a -", -109, Due.law(new NightLetIn(), seven[5] + "-a"));
    Due.is("a - between is not open", 1, Due.law(new NightLetIn(), "(((((a-(b-l)-(t-n))))))"));
  }

  /** "B = S, or S < S, S = S, S > S": one comparison, but for brackets. */
  private static void oneComparison() {
    for (String sign : new String[] {"<", "=", ">"}) {
      Due.is("one", 1, Due.law(new NightLetIn(), "a" + sign + "b"));
      Due.is("two", -103, Due.law(new NightLetIn(), "a" + sign + "b<l"));
      Due.is("two, with brackets", 1, Due.law(new NightLetIn(), "(a" + sign + "b)" + sign + "l"));
      Due.is("two, with & between", 1, Due.law(new NightLetIn(), "a" + sign + "b&l" + sign + "t"));
      Due.is("two, with | between", 1, Due.law(new NightLetIn(), "a" + sign + "b|l" + sign + "t"));
      Due.is("two in brackets", -104, Due.law(new NightLetIn(), "(a" + sign + "b=l)"));
    }
  }

  /** "LINE: E, or E ? E". */
  private static void oneQuestionALine() {
    Due.is("one", 1, Due.law(new NightLetIn(), "a?b"));
    Due.is("two", -103, Due.law(new NightLetIn(), "a?b?l"));
    Due.is("one a line", 1, Due.law(new NightLetIn(), "a?b;b?l;l?t"));
    Due.is("two in a later line", -107, Due.law(new NightLetIn(), "a?b;b?l?t"));
    Due.is("none in brackets", -102, Due.law(new NightLetIn(), "(a?b)"));
    Due.is("nothing ahead of it", -100, Due.law(new NightLetIn(), "?a"));
  }

  /** What a law makes of NIGHT 60, BLUE 5, LATCH 3, THAW 4, two boys in the barn. */
  private static int night(String text) {
    NightLetIn x = new NightLetIn();
    x.barn(44, 60);
    x.mend(0, 1, 5);
    x.mend(0, 2, 3);
    x.mend(0, 7, 4);
    Due.boyIn(x, 1, 0);
    Due.boyIn(x, 2, 0);
    x.boy(3);
    Due.is("law of " + text, 1, Due.law(x, text));
    x.day(-1);
    return x.of(0, 0);
  }

  /** "what counts if the first is not 0"; "The first LINE without a first E, or whose first E is not 0, counts". */
  private static void whichLineCounts() {
    Due.is("1 is not 0", 7, night("1?7;8"));
    Due.is("2 is not 0", 7, night("2?7;8"));
    Due.is("below 0 is not 0", 7, night("-1?7;8"));
    Due.is("0 is 0", 8, night("0?7;8"));
    Due.is("what is worked out to 0", 8, night("a-60?7;8"));
    Due.is("2 to the 31st, the least int, is not 0", 7, night("2048*1024*1024?7;8"));
    Due.is("2 to the 32nd wraps to 0", 8, night("4096*1024*1024?7;8"));
    Due.is("without a first: the lines behind it do not count", 7, night("7;1?8;9"));
    Due.is("the second", 8, night("0?7;1?8;1?9"));
    Due.is("the third", 9, night("0?7;0?8;9;6"));
  }

  /** "none: 0". */
  private static void noLineCounts() {
    Due.is("one line", 0, night("0?7"));
    Due.is("three lines", 0, night("0?7;0?8;b-5?9"));
  }

  /** "Ints that wrap". */
  private static void intsWrap() {
    Due.is("most and one", 55, night("2048*1024*1024-1+1<0?55;66"));
    Due.is("least less one", 55, night("2048*1024*1024-1>0?55;66"));
    Due.is("the least times -1", 55, night("-(2048*1024*1024)<0?55;66"));
    Due.is("the least by -1", 55, night("2048*1024*1024/-1<0?55;66"));
    Due.is("the least by -1 leaves 0", 55, night("2048*1024*1024%-1=0?55;66"));
    Due.is("a product", 55, night("9999*9999*9999=-1*(9999*9999*-9999)&9999*9999*9999<0?55;66"));
  }

  /** "/ and % toward 0". */
  private static void towardZero() {
    Due.is("-7 by 2", 50 - 3, night("50+-7/2"));
    Due.is("7 by -2", 50 - 3, night("50+7/-2"));
    Due.is("-7 by -2", 50 + 3, night("50+-7/-2"));
    Due.is("-7 by 3 leaves", 50 - 1, night("50+-7%3"));
    Due.is("7 by -3 leaves", 50 + 1, night("50+7%-3"));
    Due.is("1 by 2", 50, night("50+1/2"));
    Due.is("-1 by 2", 50, night("50+-1/2"));
  }

  /** "by 0 they give 0". */
  private static void byZero() {
    Due.is("7 by 0", 50, night("50+7/0"));
    Due.is("7 by 0 leaves", 50, night("50+7%0"));
    Due.is("-7 by 0", 50, night("50+-7/0"));
    Due.is("0 by 0", 50, night("50+0/0"));
    Due.is("0 by 0 leaves", 50, night("50+0%0"));
    Due.is("by what is worked out to 0", 50, night("50+a/(b-5)+a%(b-5)"));
  }

  /** "| & < = > ! give 1, 0; all is worked out". */
  private static void oneOrZero() {
    Due.is("|", 53, night("50+(7|0)+(0|-7)+(3|4)"));
    Due.is("| of 0 and 0", 50, night("50+(0|0)"));
    Due.is("&", 52, night("50+(7&-7)+(1&2)"));
    Due.is("& with 0", 50, night("50+(7&0)+(0&7)+(0&0)"));
    Due.is("<", 51, night("50+(1<2)+(2<2)+(3<2)"));
    Due.is("=", 51, night("50+(1=2)+(2=2)+(3=2)"));
    Due.is(">", 51, night("50+(1>2)+(2>2)+(3>2)"));
    Due.is("!", 51, night("50+!0+!1+!-1+!60"));
    Due.is("what lies behind | by 0", 51, night("50+(1|7/0)"));
    Due.is("what lies behind & by 0", 50, night("50+(0&7/0)"));
  }

  /** "(held within 0 .. 99)". */
  private static void heldWithin() {
    Due.is("99", 99, night("99"));
    Due.is("100", 99, night("100"));
    Due.is("most", 99, night("2048*1024*1024-1"));
    Due.is("0", 0, night("0"));
    Due.is("-1", 0, night("-1"));
    Due.is("least", 0, night("2048*1024*1024"));
  }

  /** "Without a text: a less l, less t by 3 (cut)", which is held within 0 .. 99, too. */
  private static void withoutAText() {
    int[] by = {0, 0, 0, 1, 1, 1, 2, 2, 2, 3};
    for (int thaw = 0; thaw <= 9; thaw++) {
      NightLetIn x = new NightLetIn();
      x.barn(0, 50);
      x.barn(0, 8 + by[thaw]);
      x.barn(0, 9 + by[thaw]);
      x.barn(0, 10 + by[thaw]);
      for (int barn = 0; barn < 4; barn++) x.mend(barn, 2, barn == 0 ? 0 : 9);
      x.mend(0, 7, thaw);
      x.day(-1);
      Due.is("thaw " + thaw, 50 - by[thaw], x.of(0, 0));
      Due.is("one less than 0", 0, x.of(1, 0));
      Due.is("0", 0, x.of(2, 0));
      Due.is("1", 1, x.of(3, 0));
    }
  }

  /** "d how many days have passed in thought (in deed: 0)". */
  private static void daysPassed() {
    NightLetIn x = new NightLetIn();
    x.barn(0, 0);
    x.row(0, 0, 0);
    Due.law(x, "d");
    int[] want = {0, 0, 1, 2};
    for (int n = 0; n < 4; n++) Due.is("behind " + n + " days", want[n], x.later(0, n, 0, 0));
    Due.is("behind 99 days", 98, x.later(0, 99, 0, 0));
    for (int i = 0; i < 3; i++) {
      x.day(-1);
      Due.is("in deed", 0, x.of(0, 0));
    }
    Due.is("in thought from now", 1, x.later(0, 2, 0, 0));
    Due.law(x, "d=0?7;d<0?8;9");
    x.day(-1);
    Due.is("in deed just 0", 7, x.of(0, 0));
  }

  /** "he SLEEPS, if that is NEEDS or more". */
  private static void needsOrMore() {
    NightLetIn x = new NightLetIn();
    x.barn(0, 20);
    Due.boyIn(x, 19, 0);
    Due.is("more", 1, x.day(-1));
    Due.is("just so much", 1, x.day(-1));
    Due.is("one less", 0, x.day(-1));
    x.mend(0, 3, 0);
    x.mend(0, 0, 0);
    Due.is("0 of 0", 1, x.day(-1));
  }

  /** "NIGHT by how many lie there (cut)". */
  private static void cutByHowMany() {
    NightLetIn x = new NightLetIn();
    x.barn(0, 99);
    x.barn(0, 99);
    x.row(0, 0, 0);
    for (int boy = 0; boy < 8; boy++) Due.boyIn(x, boy < 4 ? 12 : 13, 0);
    Due.is("99 by eight is 12", 15, x.sleeps(0, 0));
    x.mend(0, 0, 96);
    Due.is("96 by eight is 12", 15, x.sleeps(0, 0));
    x.mend(0, 0, 95);
    Due.is("95 by eight is 11", 0, x.sleeps(0, 0));
    x.mend(7, 4, 1);
    Due.is("95 by seven is 13, 99 by one", 255, x.sleeps(0, 0));
    x.mend(7, 4, -1);
    Due.is("who lies in none takes nothing", 127, x.sleeps(0, 0));
  }

  /** "and the BARN is not BLUE (BLUE is less than LIMIT)". */
  private static void notBlue() {
    NightLetIn x = new NightLetIn();
    x.barn(0, 20);
    Due.boyIn(x, 0, 0);
    x.row(0, 0, 0);
    for (int limit = 1; limit <= 20; limit++) {
      x.mend(0, 8, limit);
      x.mend(0, 1, limit - 1);
      Due.is("one less than limit " + limit, 1, x.sleeps(0, 0));
      x.mend(0, 1, limit);
      Due.is("as much as limit " + limit, 0, x.sleeps(0, 0));
    }
    x.mend(0, 1, 99);
    Due.is("far more", 0, x.sleeps(0, 0));
  }

  /** "who lies in none does not", whatever he needs. */
  private static void liesInNone() {
    NightLetIn x = new NightLetIn();
    x.barn(0, 99);
    x.boy(0);
    Due.is("in none", 0, x.day(-1));
    x.mend(0, 4, 0);
    Due.is("in one", 1, x.day(-1));
    x.mend(0, 4, -1);
    Due.is("in none again", 0, x.day(-1));
  }

  /** "its BLUE one more (99 at most)". */
  private static void blueOneMore() {
    NightLetIn x = new NightLetIn();
    x.barn(0, 5);
    x.barn(0, 5);
    x.barn(0, 5);
    x.mend(1, 1, 98);
    x.mend(2, 1, 99);
    x.day(-1);
    Due.is("0 and 1", 1, x.of(0, 1));
    Due.is("98 and 1", 99, x.of(1, 1));
    Due.is("99", 99, x.of(2, 1));
    x.day(-1);
    Due.is("99", 99, x.of(1, 1));
  }

  /** "the one that is TURNED that day has BLUE 0 instead": blue ones, too, and that one alone. */
  private static void turnedIsZero() {
    NightLetIn x = new NightLetIn();
    for (int barn = 0; barn < 5; barn++) x.barn(0, 5);
    x.mend(0, 1, 99);
    x.mend(4, 1, 6);
    x.day(0);
    Due.is("99, turned", 0, x.of(0, 1));
    for (int barn = 1; barn < 4; barn++) Due.is("not turned", 1, x.of(barn, 1));
    Due.is("not turned", 7, x.of(4, 1));
    x.day(4);
    Due.is("the last, turned", 0, x.of(4, 1));
    Due.is("the first, not turned", 1, x.of(0, 1));
  }

  /** "Then each BARN's NIGHT is by THE LAW, its BLUE one more": the law is told BLUE as it was that day. */
  private static void lawSeesTheDayAsItBegan() {
    NightLetIn x = new NightLetIn();
    x.barn(0, 0);
    x.barn(0, 0);
    Due.law(x, "b*10+n");
    Due.boyIn(x, 3, 1);
    x.mend(0, 1, 4);
    x.mend(1, 1, 6);
    Due.is("he sleeps by the night that was", 0, x.day(0));
    Due.is("turned, but by 4", 40, x.of(0, 0));
    Due.is("by 6", 61, x.of(1, 0));
    x.day(-1);
    Due.is("by 0", 0, x.of(0, 0));
    Due.is("by 7", 71, x.of(1, 0));
  }

  /** TURNS: "another byte ..: none". */
  private static void otherBytesTurnNone() {
    NightLetIn x = new NightLetIn();
    for (int barn = 0; barn < 3; barn++) x.barn(0, 5);
    for (int other : new int[] {-1, -2, 3, 4, 5, 6, 127, -128, -256 + 3}) {
      Due.row(x, 0, 0, other);
      for (int barn = 0; barn < 3; barn++) Due.is("byte " + other, 1, x.later(0, 1, barn, 1));
    }
    for (int turned = 0; turned < 3; turned++) {
      Due.row(x, 0, 0, turned);
      for (int barn = 0; barn < 3; barn++) {
        Due.is("byte " + turned, barn == turned ? 0 : 1, x.later(0, 1, barn, 1));
      }
    }
  }

  /** TURNS: "what lacks: none". */
  private static void whatLacksTurnsNone() {
    NightLetIn x = new NightLetIn();
    x.barn(0, 5);
    x.row(0, 0, 0);
    Due.is("an empty row", 5, x.later(0, 5, 0, 1));
    x.row(0, 0, 3);
    Due.is("three turns", 0, x.later(0, 3, 0, 1));
    Due.is("the fourth lacks", 1, x.later(0, 4, 0, 1));
    x.row(0, 0, 60);
    Due.is("sixty turns", 0, x.later(0, 60, 0, 1));
    Due.is("the others lack", 39, x.later(0, 99, 0, 1));
    x.row(0, 0, 2);
    Due.is("a shorter row has nothing of the longer one", 8, x.later(0, 10, 0, 1));
  }
}
