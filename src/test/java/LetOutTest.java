/** Promises 18 to 22: what is let out and its way between lamps. */
public final class LetOutTest {
  public static void main(String[] args) {
    out();
    where();
    stays();
    meet();
    darkest();
    Due.end();
  }

  /** Lamps by which a dark comes down to 56 and goes round there for ever: 56, 66, 65, 55. */
  private static NightLetIn kept() {
    NightLetIn x = new NightLetIn();
    x.barn(36, 9);
    x.lamp(87, 3);
    x.lamp(25, 3);
    x.lamp(27, 4);
    return x;
  }

  private static void out() {
    NightLetIn x = new NightLetIn();
    Due.is("18 no barn", NightLetIn.BAD, x.out(0, 0));
    x.barn(0, 0);
    x.barn(99, 0);
    x.barn(44, 0);
    Due.is("18 no barn", NightLetIn.BAD, x.out(3, 0));
    Due.is("18 no barn", NightLetIn.BAD, x.out(-1, 1));
    Due.is("18 no what", NightLetIn.BAD, x.out(0, 2));
    Due.is("18 no what", NightLetIn.BAD, x.out(0, -1));
    Due.is("18 up at once", 1, x.out(0, 0));
    Due.is("18 one cell", 1, x.out(0, 1));
    Due.is("18 up all the way", 10, x.out(1, 0));
    Due.is("18 up all the way", 10, x.out(1, 1));
    Due.is("18 from the middle", 5, x.out(2, 0));
    x.lamp(34, 3);
    Due.is("18 lit above: three to the right, then up", 8, x.out(2, 0));
    Due.is("18 lit above: three to the right, then up", 8, x.out(2, 1));
    NightLetIn y = kept();
    Due.is("18 never out", NightLetIn.NOT, y.out(0, 0));
    Due.is("18 two cells and the four of the round", 6, y.out(0, 1));
    for (int lamp = 0; lamp < 3; lamp++) y.mend(lamp, 6, 0);
    Due.is("18 lamps put out", 4, y.out(0, 0));
  }

  private static void where() {
    NightLetIn x = new NightLetIn();
    Due.is("19 no barn", NightLetIn.BAD, x.where(0, 0));
    x.barn(44, 0);
    Due.is("19 h below", NightLetIn.BAD, x.where(0, -1));
    Due.is("19 h above", NightLetIn.BAD, x.where(0, 100));
    Due.is("19 no barn", NightLetIn.BAD, x.where(1, 0));
    Due.is("19 at first", 44, x.where(0, 0));
    for (int h = 1; h <= 4; h++) Due.is("19 up", 44 - 10 * h, x.where(0, h));
    Due.is("19 out", NightLetIn.NOT, x.where(0, 5));
    Due.is("19 still out", NightLetIn.NOT, x.where(0, 99));
    x.lamp(34, 1);
    Due.is("19 right", 45, x.where(0, 1));
    Due.is("19 then up", 35, x.where(0, 2));
    x.lamp(45, 1);
    Due.is("19 down", 54, x.where(0, 1));
    Due.is("19 not back: right", 55, x.where(0, 2));
    x.lamp(54, 1);
    Due.is("19 left", 43, x.where(0, 1));
    x.lamp(43, 1);
    Due.is("19 all alike: up", 34, x.where(0, 1));
    x.mend(3, 5, 24);
    x.mend(0, 5, 33);
    x.mend(1, 5, 35);
    Due.is("19 up", 34, x.where(0, 1));
    Due.is("19 three are lit alike and it may not go back", 24, x.where(0, 2));
    NightLetIn y = kept();
    int[] cells = {36, 46, 56, 66, 65, 55, 56, 66};
    for (int h = 0; h < cells.length; h++) Due.is("19 goes round", cells[h], y.where(0, h));
    Due.is("19 still there", 65, y.where(0, 96));
    Due.is("19 still there", 66, y.where(0, 99));
    edge();
  }

  /** At the edge what lies outside is dark, but a dark cell that comes first is gone to. */
  private static void edge() {
    NightLetIn x = new NightLetIn();
    x.barn(49, 0);
    Due.is("19 up comes ahead of the edge at the right", 39, x.where(0, 1));
    x.lamp(39, 1);
    Due.is("19 the edge comes ahead of down", NightLetIn.NOT, x.where(0, 1));
    NightLetIn y = new NightLetIn();
    y.barn(40, 0);
    y.lamp(30, 1);
    Due.is("19 right comes ahead of the edge at the left", 41, y.where(0, 1));
    NightLetIn z = new NightLetIn();
    z.barn(95, 0);
    z.lamp(95, 19);
    Due.is("19 the lit land is left at the edge", 1, z.out(0, 0));
  }

  private static void stays() {
    NightLetIn x = new NightLetIn();
    Due.is("20 no barn", NightLetIn.BAD, x.stays(0, 1, 0));
    x.barn(44, 0);
    Due.is("20 bright below", NightLetIn.BAD, x.stays(0, -1, 0));
    Due.is("20 bright above", NightLetIn.BAD, x.stays(0, 20, 0));
    Due.is("20 no what", NightLetIn.BAD, x.stays(0, 1, 2));
    Due.is("20 no what", NightLetIn.BAD, x.stays(0, 1, -1));
    Due.is("20 no barn", NightLetIn.BAD, x.stays(1, 1, 0));
    Due.is("20 no light changes nothing: the least", 0, x.stays(0, 0, 0));
    Due.is("20 no light changes nothing", 5, x.stays(0, 0, 1));
    int best = x.stays(0, 7, 0), longest = x.stays(0, 7, 1);
    x.lamp(0, 7);
    for (int cell = 0; cell < 100; cell++) {
      x.mend(0, 5, cell);
      int hours = x.out(0, 0) == NightLetIn.NOT ? 100 : x.out(0, 0);
      if (cell < best && hours >= longest || hours > longest || cell == best && hours != longest) {
        Due.is("20 a lamp in cell " + cell, longest, hours);
      }
    }
    NightLetIn y = kept();
    Due.is("20 not out: 100", 100, y.stays(0, 0, 1));
    Due.is("20 not out: the least cell", 0, y.stays(0, 0, 0));
    for (int lamp = 3; lamp < 6; lamp++) y.lamp(0, 0);
    Due.is("20 one more than six", 100, y.stays(0, 0, 1));
    Due.is("20 none came", 6, y.count(2));
  }

  private static void meet() {
    NightLetIn x = new NightLetIn();
    Due.is("21 no barn", NightLetIn.BAD, x.meet(0, 0, 0));
    x.barn(44, 0);
    Due.is("21 no cell", NightLetIn.BAD, x.meet(0, -1, 0));
    Due.is("21 no cell", NightLetIn.BAD, x.meet(0, 100, 0));
    Due.is("21 no what", NightLetIn.BAD, x.meet(0, 0, 2));
    Due.is("21 no what", NightLetIn.BAD, x.meet(0, 0, -1));
    Due.is("21 at once", 0, x.meet(0, 44, 0));
    Due.is("21 at once", 44, x.meet(0, 44, 1));
    Due.is("21 beside: both move up", 1, x.meet(0, 35, 0));
    Due.is("21 beside: both move up", 34, x.meet(0, 35, 1));
    Due.is("21 comes to meet it", 1, x.meet(0, 24, 0));
    Due.is("21 comes to meet it", 34, x.meet(0, 24, 1));
    Due.is("21 from the side", 2, x.meet(0, 25, 0));
    Due.is("21 from the side", 24, x.meet(0, 25, 1));
    Due.is("21 from the side, waiting an hour", 3, x.meet(0, 16, 0));
    Due.is("21 from the side, waiting an hour", 14, x.meet(0, 16, 1));
    Due.is("21 too far behind", NightLetIn.NOT, x.meet(0, 54, 0));
    Due.is("21 in time at the last cell", 4, x.meet(0, 0, 0));
    Due.is("21 in time at the last cell", 4, x.meet(0, 0, 1));
    Due.is("21 too late by one", NightLetIn.NOT, x.meet(0, 9, 0));
    Due.is("21 too late by one", NightLetIn.NOT, x.meet(0, 9, 1));
    NightLetIn y = kept();
    for (int cell = 0; cell < 100; cell++) {
      int h = y.meet(0, cell, 0);
      Due.is("21 one that stays is met", 1, h >= 0 && h <= 18 ? 1 : 0);
      Due.is("21 where it is then", y.where(0, h), y.meet(0, cell, 1));
    }
  }

  private static void darkest() {
    NightLetIn x = new NightLetIn();
    Due.is("22 no what", NightLetIn.BAD, x.darkest(2));
    Due.is("22 no what", NightLetIn.BAD, x.darkest(-1));
    Due.is("22 without lamps", 0, x.darkest(0));
    Due.is("22 without lamps", 0, x.darkest(1));
    x.lamp(0, 19);
    Due.is("22 far from the lamp", 99, x.darkest(0));
    Due.is("22 far from the lamp", 1, x.darkest(1));
    x.mend(0, 6, 18);
    Due.is("22 just dark", 0, x.darkest(1));
    x.mend(0, 6, 17);
    Due.is("22 of like ones the least", 89, x.darkest(0));
    x.mend(0, 6, 19);
    x.lamp(99, 19);
    Due.is("22 all alike", 0, x.darkest(0));
    Due.is("22 all alike", 20, x.darkest(1));
  }
}
