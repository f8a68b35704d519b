/** The edges that section 3 of the document names, each sentence with a method of its own, in the document's order. */
public final class LetOutEdgesTest {
  private static final int BAD = NightLetIn.BAD, NOT = NightLetIn.NOT;
  private static final int[] OFF_CELLS = {Integer.MIN_VALUE, -1, 100, Integer.MAX_VALUE};

  public static void main(String[] args) {
    noSuchBarn();
    sidesInTheirOrder();
    notBack();
    backLater();
    overEachEdge();
    lightBeyondTheEdge();
    throughTheRim();
    lightOfLamps();
    lightIsAllTogether();
    hoursTillOut();
    notByNinetyNine();
    whereHours();
    unlikeCells();
    askedAgain();
    keepItBright();
    keepItOfLikeOnes();
    keepItNotOut();
    keepItChangesNothing();
    meetAtOnce();
    meetAheadOfOut();
    meetAStepAnHour();
    meetFirst();
    darkestOfLikeOnes();
    darkestLight();
    Due.end();
  }

  private static NightLetIn barnAt(int xy) {
    NightLetIn x = new NightLetIn();
    x.barn(xy, 5);
    return x;
  }

  /** By which a dark that is let out at 36 comes down to 56 and goes round there: 66, 65, 55, 56. */
  private static NightLetIn kept() {
    NightLetIn x = barnAt(36);
    x.lamp(87, 3);
    x.lamp(25, 3);
    x.lamp(27, 4);
    return x;
  }

  /** "BAD: no such number". */
  private static void noSuchBarn() {
    NightLetIn x = barnAt(44);
    for (int barn : new int[] {Integer.MIN_VALUE, -1, 1, 5, Integer.MAX_VALUE}) {
      Due.is("out of " + barn, BAD, x.out(barn, 0));
      Due.is("where of " + barn, BAD, x.where(barn, 0));
      Due.is("stays of " + barn, BAD, x.stays(barn, 5, 0));
      Due.is("meet of " + barn, BAD, x.meet(barn, 44, 0));
    }
    for (int what : new int[] {Integer.MIN_VALUE, -1, 2, Integer.MAX_VALUE}) {
      Due.is("out, what " + what, BAD, x.out(0, what));
      Due.is("stays, what " + what, BAD, x.stays(0, 5, what));
      Due.is("meet, what " + what, BAD, x.meet(0, 44, what));
      Due.is("darkest, what " + what, BAD, x.darkest(what));
    }
  }

  /** "of like ones up (Y less), right, down, left in this order". */
  private static void sidesInTheirOrder() {
    NightLetIn x = barnAt(44);
    Due.is("all dark: up", 34, x.where(0, 1));
    x.lamp(34, 1);
    Due.is("up is lit: right", 45, x.where(0, 1));
    x.lamp(45, 1);
    Due.is("right is lit, too: down", 54, x.where(0, 1));
    x.lamp(54, 1);
    Due.is("down is lit, too: left", 43, x.where(0, 1));
    x.lamp(43, 1);
    Due.is("all are lit alike: up", 34, x.where(0, 1));
    x.mend(0, 6, 2);
    Due.is("up is lit more: right", 45, x.where(0, 1));
  }

  /** "not back to where it came from the hour before". */
  private static void notBack() {
    NightLetIn x = barnAt(44);
    x.lamp(34, 1);
    x.lamp(45, 1);
    x.lamp(43, 1);
    Due.is("down", 54, x.where(0, 1));
    Due.is("right, though up is dark, too", 55, x.where(0, 2));
    NightLetIn y = barnAt(99);
    y.lamp(88, 2);
    Due.is("at the corner out", NOT, y.where(0, 1));
  }

  /** It may come back to a cell where it was earlier. */
  private static void backLater() {
    NightLetIn x = kept();
    Due.is("there", 56, x.where(0, 2));
    Due.is("from below", 66, x.where(0, 3));
    Due.is("there again", 56, x.where(0, 6));
    Due.is("on as before", 66, x.where(0, 7));
  }

  /** "over the edge of the land as well": at each of its four sides. */
  private static void overEachEdge() {
    Due.is("up", 1, barnAt(4).out(0, 0));
    NightLetIn right = barnAt(49);
    right.lamp(39, 1);
    Due.is("right", 1, right.out(0, 0));
    NightLetIn down = barnAt(94);
    down.lamp(84, 1);
    down.lamp(95, 1);
    Due.is("down", 1, down.out(0, 0));
    NightLetIn left = barnAt(30);
    left.lamp(20, 1);
    left.lamp(31, 1);
    left.lamp(40, 1);
    Due.is("left", 1, left.out(0, 0));
    Due.is("left, not to the end of the line above", NOT, left.where(0, 1));
    NightLetIn notRight = barnAt(49);
    notRight.lamp(39, 1);
    Due.is("right, not to the beginning of the line below", NOT, notRight.where(0, 1));
  }

  /** "(light there: 0)": a dark cell that comes first is like it, a lit one is not. */
  private static void lightBeyondTheEdge() {
    NightLetIn x = barnAt(90);
    Due.is("up is dark, too, and comes first", 80, x.where(0, 1));
    x.lamp(80, 1);
    Due.is("right is dark, too, and comes ahead of down", 91, x.where(0, 1));
    x.lamp(91, 1);
    Due.is("now out, down or left", NOT, x.where(0, 1));
    NightLetIn y = barnAt(0);
    y.lamp(0, 19);
    Due.is("the edge lies in the dark, however bright the land", 1, y.out(0, 0));
  }

  /** Cells of the rim, the first and the last, are cells of the way. */
  private static void throughTheRim() {
    NightLetIn x = barnAt(20);
    Due.is("cell 10", 10, x.where(0, 1));
    Due.is("cell 0", 0, x.where(0, 2));
    Due.is("out", NOT, x.where(0, 3));
    Due.is("three hours", 3, x.out(0, 0));
    NightLetIn y = barnAt(21);
    Due.is("cell 1", 1, y.where(0, 2));
    Due.is("out", NOT, y.where(0, 3));
    NightLetIn z = barnAt(88);
    z.lamp(78, 1);
    z.lamp(89, 1);
    Due.is("cell 98, in the last line", 98, z.where(0, 1));
    Due.is("cell 99", 99, z.where(0, 2));
    Due.is("out, for up is lit", NOT, z.where(0, 3));
    NightLetIn w = barnAt(11);
    w.lamp(1, 1);
    w.lamp(12, 1);
    w.lamp(21, 1);
    Due.is("cell 10, at the left", 10, w.where(0, 1));
    Due.is("then up", 0, w.where(0, 2));
  }

  /** "of each LAMP BRIGHT less how far it is (X and Y apart; 0 at least)". */
  private static void lightOfLamps() {
    NightLetIn x = new NightLetIn();
    x.barn(0, 1);
    x.barn(99, 1);
    x.barn(9, 1);
    x.lamp(0, 19);
    Due.is("in its cell", 19, x.of(0, 10));
    Due.is("eighteen apart", 1, x.of(1, 10));
    Due.is("nine apart", 10, x.of(2, 10));
    x.mend(0, 6, 18);
    Due.is("eighteen apart", 0, x.of(1, 10));
    x.mend(0, 6, 17);
    Due.is("0 at least", 0, x.of(1, 10));
    x.mend(0, 6, 9);
    Due.is("nine apart", 0, x.of(2, 10));
    x.mend(0, 6, 0);
    Due.is("not bright", 0, x.of(0, 10));
  }

  /** "all together": six lamps at most; one that does not reach takes nothing away. */
  private static void lightIsAllTogether() {
    NightLetIn x = barnAt(44);
    Due.is("no lamps", 0, x.of(0, 10));
    for (int lamp = 1; lamp <= 6; lamp++) {
      x.lamp(44, 19);
      Due.is("lamps: " + lamp, 19 * lamp, x.of(0, 10));
    }
    x.mend(5, 5, 99);
    x.mend(5, 6, 3);
    Due.is("one that does not reach", 95, x.of(0, 10));
  }

  /** "How many hours till it is out". */
  private static void hoursTillOut() {
    Due.is("1 at the least", 1, barnAt(0).out(0, 0));
    Due.is("from the last line", 10, barnAt(90).out(0, 0));
    NightLetIn x = barnAt(93);
    int[] cells = {54, 9, 4, 0, 56, 99};
    int[] bright = {4, 6, 2, 4, 2, 5};
    for (int i = 0; i < 6; i++) x.lamp(cells[i], bright[i]);
    Due.is("a long way", 60, x.out(0, 0));
    Due.is("still there an hour ahead", 1, x.where(0, 59) >= 0 ? 1 : 0);
    Due.is("then out", NOT, x.where(0, 60));
  }

  /** "(99 at most; NOT: not by 99)". */
  private static void notByNinetyNine() {
    NightLetIn x = kept();
    Due.is("not out", NOT, x.out(0, 0));
    Due.is("where it is behind 99", 66, x.where(0, 99));
    x.mend(2, 6, 3);
    Due.is("a lamp less bright: out", 1, x.out(0, 0) > 0 ? 1 : 0);
  }

  /** "where it is behind h hours (0 .. 99; NOT: out)". */
  private static void whereHours() {
    NightLetIn x = barnAt(44);
    for (int h : new int[] {Integer.MIN_VALUE, -1, 100, Integer.MAX_VALUE}) Due.is("h " + h, BAD, x.where(0, h));
    Due.is("0 hours", 44, x.where(0, 0));
    Due.is("the last hour in the land", 4, x.where(0, 4));
    Due.is("the hour it is out", NOT, x.where(0, 5));
    Due.is("99 hours", NOT, x.where(0, 99));
  }

  /** "through how many unlike CELLS it goes till then (by 99 hours)". */
  private static void unlikeCells() {
    Due.is("its own alone", 1, barnAt(0).out(0, 1));
    Due.is("a whole line", 10, barnAt(95).out(0, 1));
    NightLetIn x = kept();
    Due.is("each of them once, in 99 hours", 6, x.out(0, 1));
    x.mend(0, 6, 0);
    x.mend(1, 6, 0);
    x.mend(2, 6, 0);
    Due.is("four", 4, x.out(0, 1));
  }

  /** What was asked earlier leaves nothing behind. */
  private static void askedAgain() {
    NightLetIn x = kept();
    x.barn(55, 1);
    for (int i = 0; i < 3; i++) {
      Due.is("the first barn", 6, x.out(0, 1));
      int other = x.out(1, 1);
      Due.is("the other, asked again", other, x.out(1, 1));
      Due.is("the first barn's hours", NOT, x.out(0, 0));
      x.stays(0, 19, 0);
    }
  }

  /** "one LAMP more, as BRIGHT as told (0 .. 19)". */
  private static void keepItBright() {
    NightLetIn x = barnAt(44);
    for (int bright : new int[] {Integer.MIN_VALUE, -1, 20, Integer.MAX_VALUE}) {
      Due.is("bright " + bright, BAD, x.stays(0, bright, 0));
      Due.is("bright " + bright, BAD, x.stays(0, bright, 1));
    }
    Due.is("bright 0", 5, x.stays(0, 0, 1));
    Due.is("bright 19 is taken", 1, x.stays(0, 19, 1) >= 5 ? 1 : 0);
    everyCellTried(x, 1);
    everyCellTried(x, 6);
    everyCellTried(x, 19);
  }

  /** What is answered is the least cell of those in which a real lamp makes it stay longest. */
  private static void everyCellTried(NightLetIn x, int bright) {
    NightLetIn y = barnAt(44);
    y.lamp(0, bright);
    int best = -1, longest = -1;
    for (int cell = 0; cell < 100; cell++) {
      y.mend(0, 5, cell);
      int hours = y.out(0, 0) == NOT ? 100 : y.out(0, 0);
      if (hours > longest) {
        longest = hours;
        best = cell;
      }
    }
    Due.is("where, bright " + bright, best, x.stays(0, bright, 0));
    Due.is("how long, bright " + bright, longest, x.stays(0, bright, 1));
  }

  /** "(10 Y and X, of like ones the least)". */
  private static void keepItOfLikeOnes() {
    Due.is("no light: the first cell", 0, barnAt(44).stays(0, 0, 0));
    NightLetIn x = barnAt(0);
    Due.is("out at once wherever the lamp stands", 1, x.stays(0, 19, 1));
    Due.is("out at once: the first cell", 0, x.stays(0, 19, 0));
  }

  /** "(99 and not out: 100)". */
  private static void keepItNotOut() {
    NightLetIn x = kept();
    Due.is("not out without it", 100, x.stays(0, 0, 1));
    Due.is("the first cell", 0, x.stays(0, 0, 0));
    x.mend(1, 6, 0);
    Due.is("out without it", 1, x.out(0, 0) > 0 ? 1 : 0);
    Due.is("not out with it", 100, x.stays(0, 3, 1));
    int cell = x.stays(0, 3, 0);
    x.lamp(cell, 3);
    Due.is("not out with a real one there", NOT, x.out(0, 0));
  }

  /** KEEP IT is a thought: six lamps may be there, and none comes. */
  private static void keepItChangesNothing() {
    NightLetIn x = barnAt(44);
    for (int lamp = 0; lamp < 6; lamp++) x.lamp(lamp, 0);
    int longest = x.stays(0, 7, 1);
    Due.is("a seventh in thought", 1, longest > 5 ? 1 : 0);
    Due.is("no lamp came", 6, x.count(2));
    Due.is("no light came", 0, x.darkest(1));
    Due.is("it goes as before", 5, x.out(0, 0));
  }

  /** "(0 hours: at once)". */
  private static void meetAtOnce() {
    NightLetIn x = barnAt(0);
    Due.is("hours", 0, x.meet(0, 0, 0));
    Due.is("the cell", 0, x.meet(0, 0, 1));
    for (int cell : OFF_CELLS) {
      Due.is("no cell", BAD, x.meet(0, cell, 0));
      Due.is("no cell", BAD, x.meet(0, cell, 1));
    }
  }

  /** "ahead of its being out". */
  private static void meetAheadOfOut() {
    NightLetIn x = barnAt(0);
    for (int cell = 1; cell < 100; cell++) {
      Due.is("out in the first hour", NOT, x.meet(0, cell, 0));
      Due.is("out in the first hour", NOT, x.meet(0, cell, 1));
    }
    NightLetIn y = barnAt(44);
    Due.is("at the last cell in the last hour", 4, y.meet(0, 8, 0));
    Due.is("at the last cell in the last hour", 4, y.meet(0, 8, 1));
    Due.is("an hour too late", NOT, y.meet(0, 9, 0));
    Due.is("an hour too late", NOT, y.meet(0, 19, 1));
  }

  /** "a step a side CELL or none an hour". */
  private static void meetAStepAnHour() {
    NightLetIn x = barnAt(44);
    Due.is("behind it one never gets nearer", NOT, x.meet(0, 54, 0));
    Due.is("askew behind it neither", NOT, x.meet(0, 55, 0));
    Due.is("at its side one is there first", 1, x.meet(0, 33, 0));
    Due.is("two at its side: one steps to meet it", 2, x.meet(0, 26, 0));
    Due.is("two at its side: one steps to meet it", 24, x.meet(0, 26, 1));
    Due.is("three at its side", 3, x.meet(0, 17, 0));
    Due.is("ahead of it: one steps, then waits an hour", 2, x.meet(0, 14, 0));
    Due.is("ahead of it: one steps, then waits an hour", 24, x.meet(0, 14, 1));
    Due.is("further ahead: two steps, no hour to wait", 2, x.meet(0, 4, 0));
  }

  /** "where one first is at its hour's end where the dark is then". */
  private static void meetFirst() {
    for (int cell = 0; cell < 100; cell++) {
      NightLetIn x = kept();
      int want = firstMeeting(x, cell);
      Due.is("hours from " + cell, want, x.meet(0, cell, 0));
      Due.is("cell from " + cell, x.where(0, want), x.meet(0, cell, 1));
    }
  }

  private static int firstMeeting(NightLetIn x, int from) {
    for (int h = 0; h <= 99; h++) {
      int at = x.where(0, h);
      if (at >= 0 && Math.abs(at / 10 - from / 10) + Math.abs(at % 10 - from % 10) <= h) return h;
    }
    return NOT;
  }

  /** "DARKEST: the CELL with least light (of like ones the least)", each cell in its turn. */
  private static void darkestOfLikeOnes() {
    NightLetIn x = new NightLetIn();
    Due.is("no lamps", 0, x.darkest(0));
    x.lamp(0, 1);
    Due.is("cell 0 is lit", 1, x.darkest(0));
    x.lamp(1, 1);
    Due.is("and cell 1", 2, x.darkest(0));
    x.mend(1, 5, 2);
    Due.is("cells 0 and 2 are lit", 1, x.darkest(0));
    x.mend(0, 6, 19);
    x.mend(1, 6, 0);
    Due.is("the last cell", 99, x.darkest(0));
    x.mend(0, 5, 99);
    Due.is("the first cell", 0, x.darkest(0));
    x.mend(0, 5, 9);
    Due.is("cell 90", 90, x.darkest(0));
    x.mend(0, 5, 90);
    Due.is("cell 9", 9, x.darkest(0));
  }

  /** "its light". */
  private static void darkestLight() {
    NightLetIn x = new NightLetIn();
    Due.is("no lamps", 0, x.darkest(1));
    int[] corners = {0, 9, 90, 99};
    for (int cell : corners) x.lamp(cell, 19);
    Due.is("each cell has 19 - d and so on", 40, x.darkest(1));
    Due.is("all cells have as much", 0, x.darkest(0));
    x.mend(0, 6, 18);
    Due.is("one less", 39, x.darkest(1));
  }
}
