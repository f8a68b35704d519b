import java.util.List;
import java.util.Random;

/** Draws arguments for calls of the face (by a seeded Random, so that each run is the same). */
final class Draw {
  private static final int[] ODD = {Integer.MIN_VALUE, Integer.MAX_VALUE, -2, -1, 0, 1, 5, 6, 7, 8, 9, 10, 19, 20, 21,
      30, 31, 59, 60, 61, 98, 99, 100, 101, 119, 120, 255, 256, 999, 1000, -100, Integer.MAX_VALUE - 1};

  /** An argument for a call of the face: mostly one that does, now and then one at an edge. */
  static int argument(Random random, String name, int i) {
    if (random.nextInt(12) == 0) return ODD[random.nextInt(ODD.length)];
    String key = name + i;
    switch (key) {
      case "barn0": case "barn1": case "lamp0": case "meet1": case "deal0": case "keeps1": case "where1":
      case "later1": case "sleeps1": case "often1":
        return random.nextInt(100);
      case "boy0": return random.nextInt(31);
      case "boys1": case "put1": case "element1": return random.nextInt(random.nextBoolean() ? 60 : 6);
      case "boys2": return 1 + random.nextInt(3);
      case "lamp1": case "stays1": return random.nextInt(20);
      case "mend1": return random.nextInt(9);
      case "mend2": return random.nextInt(random.nextBoolean() ? 10 : 30);
      case "of1": return random.nextInt(11);
      case "feed0": return random.nextBoolean() ? "abltnd+-*;?123".charAt(random.nextInt(14)) : random.nextInt(256);
      case "often2": case "turnings1": case "beds0": case "deal1": case "day0": return random.nextInt(7) - 1;
      case "turnings0": return random.nextInt(61);
      case "share0": return random.nextInt(1000);
      case "drawn0": return random.nextInt();
      case "drawn1": return 100 * (1 + random.nextInt(4)) + 1 + random.nextInt(30);
      case "fork1": return 1 + random.nextInt(40);
      case "body0": case "taken1": return random.nextInt(8);
      case "act0": case "keep1": return random.nextInt(12) - 1;
      case "act1": return random.nextInt(4);
      case "act2": return random.nextBoolean() ? random.nextInt() : random.nextInt(20) - 10;
      case "trace0": return random.nextInt(12);
      case "row1": return random.nextInt(3) > 0 ? 0 : random.nextInt(5);
      case "row2": return random.nextInt(61);
      case "put2": return random.nextBoolean() ? random.nextInt(7) - 1 : random.nextInt();
      case "shift1": case "shift3": case "shift4": return random.nextInt(random.nextBoolean() ? 4 : 40);
      case "led0": return random.nextInt(5);
      case "count0": return random.nextInt(7);
      default: break;
    }
    boolean what = List.of("later3", "out1", "stays2", "meet2", "darkest0", "thawed1", "drawn2").contains(key);
    return what ? random.nextInt(2) : random.nextInt(6);
  }

  private Draw() { }
}
