/** Promises 29 to 36: days in deed, what is led, the image, changes undone and done again. */
public final class DeedTest {
  public static void main(String[] args) {
    day();
    fork();
    letOut();
    led();
    image();
    undo();
    forty();
    undoAndDeeds();
    Due.end();
  }

  private static NightLetIn land() {
    NightLetIn x = new NightLetIn();
    x.barn(0, 40);
    x.barn(1, 30);
    Due.boyIn(x, 20, 0);
    Due.boyIn(x, 19, 0);
    Due.boyIn(x, 30, 1);
    return x;
  }

  private static void day() {
    NightLetIn x = land();
    Due.is("29 barn below", NightLetIn.BAD, x.day(-2));
    Due.is("29 barn above", NightLetIn.BAD, x.day(5));
    Due.is("29 none passed", 0, x.led(0));
    Due.is("29 all sleep", 7, x.day(-1));
    Due.is("29 night", 39, x.of(0, 0));
    Due.is("29 blue", 1, x.of(0, 1));
    Due.is("29 39 by two, 29", 2, x.day(1));
    Due.is("29 turned", 0, x.of(1, 1));
    Due.is("29 the other", 2, x.of(0, 1));
    Due.is("29 one not there", 2, x.day(4));
    Due.is("29 nothing is turned", 3, x.of(0, 1));
    Due.is("29 nothing is turned", 1, x.of(1, 1));
    Due.is("29 days are no changes", 3, x.count(4));
    x.mend(0, 1, 7);
    Due.is("29 blue: nobody", 0, x.day(0));
    Due.is("29 turned", 0, x.of(0, 1));
    x.mend(0, 1, 99);
    x.day(-1);
    Due.is("29 99 at most", 99, x.of(0, 1));
    NightLetIn y = new NightLetIn();
    Due.is("29 nobody", 0, y.day(0));
    Due.is("29 a day", 1, y.led(0));
  }

  private static void fork() {
    NightLetIn x = land();
    Due.is("30 no barn", NightLetIn.BAD, x.fork(2, 1));
    Due.is("30 no barn", NightLetIn.BAD, x.fork(-1, 1));
    Due.is("30 v below", NightLetIn.BAD, x.fork(0, 0));
    Due.is("30 v above", NightLetIn.BAD, x.fork(0, 100));
    Due.is("30 would be 100", NightLetIn.STATE, x.fork(0, 60));
    Due.is("30 as it was", 40, x.of(0, 0));
    Due.is("30 not led", 0, x.led(3));
    Due.is("30 99", 99, x.fork(0, 59));
    Due.is("30 full", NightLetIn.STATE, x.fork(0, 1));
    Due.is("30 the other", 31, x.fork(1, 1));
    Due.is("30 led", 60, x.led(3));
    x.letOut(0);
    Due.is("30 all at once", 99, x.fork(0, 99));
    Due.is("30 no change", 3, x.count(4));
  }

  private static void letOut() {
    NightLetIn x = land();
    Due.is("31 no barn", NightLetIn.BAD, x.letOut(2));
    Due.is("31 no barn", NightLetIn.BAD, x.letOut(-1));
    Due.is("31 had", 40, x.letOut(0));
    Due.is("31 none now", 0, x.of(0, 0));
    Due.is("31 nothing", 0, x.letOut(0));
    Due.is("31 the other", 30, x.letOut(1));
    Due.is("31 led", 70, x.led(4));
    Due.is("31 no change", 3, x.count(4));
  }

  private static void led() {
    NightLetIn x = land();
    Due.is("32 below", NightLetIn.BAD, x.led(-1));
    Due.is("32 above", NightLetIn.BAD, x.led(5));
    x.day(0);
    x.day(-1);
    x.day(3);
    x.day(1);
    x.fork(0, 5);
    x.fork(1, 6);
    x.letOut(1);
    int[] want = {4, 3 + 1 + 1 + 0, 2, 11, 26 + 6};
    for (int what = 0; what < 5; what++) Due.is("32 what " + what, want[what], x.led(what));
  }

  private static void image() {
    NightLetIn x = land();
    Due.is("34 none", NightLetIn.STATE, x.back());
    x.day(0);
    x.fork(0, 9);
    Due.is("33 days", 1, x.image());
    int[] night = {x.of(0, 0), x.of(1, 0)};
    int[] blue = {x.of(0, 1), x.of(1, 1)};
    for (int i = 0; i < 3; i++) x.day(1);
    x.mend(0, 0, 77);
    x.mend(0, 2, 5);
    x.mend(0, 7, 6);
    x.mend(0, 4, 1);
    x.letOut(1);
    x.barn(9, 55);
    x.day(-1);
    Due.is("34 days", 1, x.back());
    for (int barn = 0; barn < 2; barn++) {
      Due.is("34 night", night[barn], x.of(barn, 0));
      Due.is("34 blue", blue[barn], x.of(barn, 1));
    }
    Due.is("34 a barn that came since: night", 52, x.of(2, 0));
    Due.is("34 a barn that came since: blue", 0, x.of(2, 1));
    Due.is("34 the latch stays", 5, x.of(0, 2));
    Due.is("34 thaw stays", 6, x.of(0, 7));
    Due.is("34 who lies where stays", 1, x.of(0, 4));
    int[] told = {1, 3, 1, 9, 0};
    for (int what = 0; what < 5; what++) Due.is("34 led " + what, told[what], x.led(what));
    x.day(0);
    x.day(0);
    Due.is("34 laid back again", 1, x.back());
    Due.is("34 night again", night[0], x.of(0, 0));
    x.day(0);
    Due.is("33 a later one", 2, x.image());
    x.day(0);
    Due.is("34 the later one", 2, x.back());
    NightLetIn y = new NightLetIn();
    Due.is("33 with nothing", 0, y.image());
    y.barn(0, 5);
    y.mend(0, 1, 4);
    Due.is("34 with nothing", 0, y.back());
    Due.is("34 night as it is", 5, y.of(0, 0));
    Due.is("34 blue 0", 0, y.of(0, 1));
    Due.is("34 changes are kept", 1, y.count(4));
  }

  private static void undo() {
    NightLetIn x = new NightLetIn();
    x.barn(0, 40);
    x.boy(3);
    x.lamp(5, 6);
    Due.is("35 none", NightLetIn.STATE, x.undo());
    Due.is("36 none", NightLetIn.STATE, x.redo());
    int[] to = {9, 8, 7, 6, 0, 55, 4, 3, 2};
    int[] was = new int[9];
    for (int what = 0; what < 9; what++) was[what] = x.mend(0, what, to[what]);
    Due.is("46 changes", 9, x.count(4));
    for (int what = 8; what >= 0; what--) {
      Due.is("35 how many may still be", what, x.undo());
      Due.is("35 what " + what, was[what], x.of(0, what));
      if (what > 0) Due.is("35 the one ahead of it", to[what - 1], x.of(0, what - 1));
    }
    Due.is("35 no more", NightLetIn.STATE, x.undo());
    for (int what = 0; what < 9; what++) {
      Due.is("36 how many may still be", 8 - what, x.redo());
      Due.is("36 what " + what, to[what], x.of(0, what));
    }
    Due.is("36 no more", NightLetIn.STATE, x.redo());
    x.undo();
    x.undo();
    x.mend(0, 0, 9);
    x.mend(0, 0, 100);
    Due.is("36 none came behind", 1, x.redo());
    x.boy(4);
    x.barn(6, 7);
    x.lamp(8, 9);
    x.day(0);
    Due.is("36 nor by these", 0, x.redo());
    x.undo();
    x.mend(0, 3, 1);
    Due.is("36 another came", NightLetIn.STATE, x.redo());
    Due.is("46 changes", 9, x.count(4));
    Due.is("35 the other", 8, x.undo());
    Due.is("35 the other", 6, x.of(0, 3));
  }

  private static void forty() {
    NightLetIn x = new NightLetIn();
    x.barn(0, 0);
    for (int v = 1; v <= 45; v++) Due.is("6 was", v - 1, x.mend(0, 0, v));
    Due.is("46 40 are kept", 40, x.count(4));
    for (int i = 39; i >= 0; i--) Due.is("35 of 40", i, x.undo());
    Due.is("35 the oldest are gone", NightLetIn.STATE, x.undo());
    Due.is("35 the oldest are gone", 5, x.of(0, 0));
    for (int i = 39; i >= 0; i--) Due.is("36 of 40", i, x.redo());
    Due.is("36 all again", 45, x.of(0, 0));
    x.undo();
    x.mend(0, 0, 99);
    Due.is("46 still 40", 40, x.count(4));
    mixedForty();
  }

  /** Changes of unlike numbers, of which the oldest are dropped, undone and done again one by one. */
  private static void mixedForty() {
    NightLetIn x = new NightLetIn();
    for (int i = 0; i < 3; i++) {
      x.barn(i, 50);
      x.boy(5);
      x.lamp(i, 5);
    }
    int[][] told = new int[55][];
    for (int i = 0; i < told.length; i++) {
      int number = i % 3, what = i * 5 % 7;
      int v = what == 4 ? (x.of(number, 4) + 2) % 3 : x.of(number, what) + 1;
      told[i] = new int[] {number, what, x.mend(number, what, v), v};
    }
    for (int i = told.length - 1; i >= 15; i--) {
      Due.is("35 of mixed ones", i - 15, x.undo());
      Due.is("35 change " + i, told[i][2], x.of(told[i][0], told[i][1]));
    }
    Due.is("35 the oldest are gone", NightLetIn.STATE, x.undo());
    for (int i = 15; i < told.length; i++) {
      Due.is("36 of mixed ones", told.length - 1 - i, x.redo());
      Due.is("36 change " + i, told[i][3], x.of(told[i][0], told[i][1]));
    }
  }

  private static void undoAndDeeds() {
    NightLetIn x = new NightLetIn();
    x.barn(0, 50);
    x.mend(0, 0, 60);
    x.day(-1);
    x.day(0);
    Due.is("35 the number that was told ahead", 0, x.undo());
    Due.is("35 the number that was told ahead", 50, x.of(0, 0));
    Due.is("35 blue is by deeds", 0, x.of(0, 1));
    Due.is("35 days stay", 2, x.led(0));
    x.fork(0, 9);
    Due.is("36 deeds are none", 0, x.redo());
    Due.is("36 the number that was told", 60, x.of(0, 0));
    x.boy(1);
    x.mend(0, 4, 0);
    Due.is("lies there", 1, x.day(-1));
    x.undo();
    Due.is("lies nowhere again", 0, x.day(-1));
    x.redo();
    Due.is("lies there again", 1, x.day(-1));
  }
}
