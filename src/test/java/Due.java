/** Counts the answers that are not as due, and makes what many tests begin with. */
final class Due {
  private static int wrong = 0;

  static void is(String call, long want, long got) {
    if (got != want) {
      wrong++;
      System.out.println(call + " answered " + got + ", due is " + want);
    }
  }

  static void end() {
    System.out.println(wrong == 0 ? "all answers are as due" : wrong + " answers are not as due");
    if (wrong != 0) System.exit(1);
  }

  /** Feeds a text and makes it the law: what law() answers. */
  static int law(NightLetIn x, String text) {
    for (int i = 0; i < text.length(); i++) x.feed(text.charAt(i));
    return x.law();
  }

  /** A row of a sort on a shelf, with these elements. */
  static void row(NightLetIn x, int shelf, int sort, long... elements) {
    is("row()", 1, x.row(shelf, sort, elements.length));
    for (int i = 0; i < elements.length; i++) is("put()", 1, x.put(shelf, i, elements[i]));
  }

  /** A boy who lies in a barn. */
  static void boyIn(NightLetIn x, int needs, int barn) {
    int boy = x.boy(needs);
    x.mend(boy, 4, barn);
  }

  private Due() { }
}
