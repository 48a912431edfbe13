/** Promises 16 to 21: what one asks. */
public final class AskedTest {
  private static final int NONE = -1;
  private static final int EAST = 1;

  public static void main(String[] args) {
    promise16();
    promise17();
    promise18();
    promise19();
    promise20();
    promise21();
    Due.end("AskedTest");
  }

  private static void promise16() {
    ChannelWinter x = new ChannelWinter();
    x.port(1);
    x.breaker(0, 100);
    x.ship(1, 0, 1, 0);
    x.ship(0, 0, 1, 0);
    x.ship(1, 0, 1, 0);
    Due.is("ships in 1", x.ofCell(1, 5), 2);
    Due.is("ships in 0", x.ofCell(0, 5), 1);
    Due.is("ships in 2", x.ofCell(2, 5), 0);
    x.ice(0, 40);
    x.ice(1, 99);
    x.steer(0, 1);
    x.pass(0, EAST, 1);
    Due.is("ships that arrived do not count", x.ofCell(1, 5), 0);
    Due.is("ice", x.ofCell(1, 0), 99 + 4 - 9);
    Due.is("press", x.ofCell(1, 1), 0);
    Due.is("channel", x.ofCell(1, 2), 12);
    Due.is("worth in a channel", x.ofCell(1, 4), 23);
    Due.is("press of 2", x.ofCell(2, 1), 9);
    Due.is("worth without a channel", x.ofCell(2, 4), 9 + 45);
    x.ice(0, 200);
    x.pass(0, EAST, 1);
    Due.is("press in a channel", x.ofCell(1, 1), 20 - 9);
    Due.is("worth in a channel with press", x.ofCell(1, 4), (94 + 11) / 4 + 55);
    x.pass(0, NONE, 8);
    Due.is("a channel's last hour", x.ofCell(1, 2), 1);
    Due.is("worth in it", x.ofCell(1, 4), 105 / 4);
    x.pass(0, NONE, 1);
    Due.is("a channel that is closed", x.ofCell(1, 2), 0);
    Due.is("worth without it", x.ofCell(1, 4), 105);
    x.land(14);
    Due.is("land", x.ofCell(14, 3), 1);
    Due.is("no land", x.ofCell(13, 3), 0);
    Due.outOfBounds(x, "ofCell(-1, 0)", () -> x.ofCell(-1, 0));
    Due.outOfBounds(x, "ofCell(15, 0)", () -> x.ofCell(15, 0));
    Due.outOfBounds(x, "ofCell(15, 6)", () -> x.ofCell(15, 6));
    Due.badArgument(x, "ofCell(0, -1)", () -> x.ofCell(0, -1));
    Due.badArgument(x, "ofCell(0, 6)", () -> x.ofCell(0, 6));
  }

  private static void promise17() {
    ChannelWinter x = new ChannelWinter();
    Due.outOfBounds(x, "ofBreaker(0, 6) without a breaker", () -> x.ofBreaker(0, 6));
    x.port(14);
    x.breaker(3, 77);
    x.breaker(4, 5);
    for (int ship = 0; ship < 4; ship++) {
      x.ship(3, 1, 1, 0);
    }
    Due.is("tows none", x.ofBreaker(0, 4), NONE);
    x.lead(0, 1);
    x.lead(0, 2);
    x.tow(0, 3);
    x.steer(0, 2);
    x.steer(0, 1);
    x.ice(2, 151);
    x.pass(0, NONE, 3);
    int[] of0 = {3, 77, 2, 2, 3, 3};
    int[] of1 = {4, 5, 0, 0, NONE, 0};
    for (int what = 0; what <= 5; what++) {
      Due.is("ofBreaker(0, " + what + ")", x.ofBreaker(0, what), of0[what]);
      Due.is("ofBreaker(1, " + what + ")", x.ofBreaker(1, what), of1[what]);
    }
    Due.outOfBounds(x, "ofBreaker(-1, 0)", () -> x.ofBreaker(-1, 0));
    Due.outOfBounds(x, "ofBreaker(2, 0)", () -> x.ofBreaker(2, 0));
    Due.badArgument(x, "ofBreaker(0, -1)", () -> x.ofBreaker(0, -1));
    Due.badArgument(x, "ofBreaker(0, 6)", () -> x.ofBreaker(0, 6));
  }

  private static void promise18() {
    ChannelWinter x = new ChannelWinter();
    Due.outOfBounds(x, "ofShip(0, 15) without a ship", () -> x.ofShip(0, 15));
    x.port(14);
    x.port(3);
    x.rule(1, 4, 24);
    x.breaker(1, 100);
    x.breaker(1, 100);
    x.ship(1, 2, 5, 1);
    x.ship(9, 3, 6, 0);
    x.pass(0, NONE, 22);
    x.lead(1, 0);
    x.pass(0, NONE, 2);
    x.steer(1, 2);
    x.steer(1, 3);
    x.sail(1, 14);
    Due.is("led", x.ofShip(0, 4), 1);
    Due.is("its breaker", x.ofShip(0, 5), 1);
    x.tow(1, 0);
    Due.is("towed", x.ofShip(0, 4), 2);
    x.land(7);
    x.ice(2, 60);
    x.pass(0, 2, 1);
    x.ice(8, 60);
    x.pass(0, 0, 1);
    x.sail(0, 8);
    x.sail(0, 4);
    int[] of0 = {3, 2, 5, 1, 2, 1, 2, 1, 18, NONE, 22, 0, 0, 1, 2};
    int[] of1 = {14, 3, 6, 0, 3, NONE, 0, 0, 0, 25, 24, 0, 0, 0, 0};
    for (int what = 0; what <= 14; what++) {
      Due.is("ofShip(0, " + what + ")", x.ofShip(0, what), of0[what]);
      Due.is("ofShip(1, " + what + ")", x.ofShip(1, what), of1[what]);
    }
    x.halt(0);
    x.ice(8, 51);
    x.sail(0, 8);
    x.pass(0, NONE, 1);
    Due.is("ofShip(0, 13)", x.ofShip(0, 13), 2);
    Due.outOfBounds(x, "ofShip(-1, 0)", () -> x.ofShip(-1, 0));
    Due.outOfBounds(x, "ofShip(2, 0)", () -> x.ofShip(2, 0));
    Due.badArgument(x, "ofShip(0, -1)", () -> x.ofShip(0, -1));
    Due.badArgument(x, "ofShip(0, 15)", () -> x.ofShip(0, 15));
  }

  private static void promise19() {
    ChannelWinter x = new ChannelWinter();
    Due.outOfBounds(x, "inForce(0, -1) without a port", () -> x.inForce(0, -1));
    x.port(14);
    x.port(13);
    Due.is("without a rule", x.inForce(0, 0), 0);
    x.rule(0, 2, 40);
    x.rule(0, 4, 30);
    x.rule(0, 1, 50);
    x.rule(0, 3, 50);
    Due.is("ahead of all", x.inForce(0, 29), 0);
    Due.is("from 30", x.inForce(0, 30), 4);
    Due.is("to 39", x.inForce(0, 39), 4);
    Due.is("at 40 the one from 30 was told last", x.inForce(0, 40), 4);
    Due.is("at 49", x.inForce(0, 49), 4);
    Due.is("at 50", x.inForce(0, 50), 3);
    Due.is("at the last hour", x.inForce(0, Integer.MAX_VALUE), 3);
    Due.is("of another port", x.inForce(1, 50), 0);
    x.pass(0, NONE, 24);
    x.rule(0, 0, 24);
    Due.is("at 47", x.inForce(0, 47), 4);
    Due.is("at 48", x.inForce(0, 48), 0);
    Due.outOfBounds(x, "inForce(2, 0)", () -> x.inForce(2, 0));
    Due.outOfBounds(x, "inForce(-1, -1)", () -> x.inForce(-1, -1));
    Due.badArgument(x, "inForce(0, -1)", () -> x.inForce(0, -1));
    Due.badArgument(x, "inForce(0, least)", () -> x.inForce(0, Integer.MIN_VALUE));
  }

  private static void promise20() {
    ChannelWinter x = new ChannelWinter();
    x.port(4);
    x.port(5);
    x.rule(1, 4, 24);
    x.breaker(0, 100);
    x.ship(0, 1, 9, 0);
    x.ship(4, 1, 9, 0);
    x.ship(0, 1, 9, 0);
    x.lead(0, 0);
    x.tow(0, 2);
    x.steer(0, 1);
    x.steer(0, 2);
    x.steer(0, 3);
    x.pass(1, NONE, 2);
    x.ice(12, 80);
    x.pass(0, 0, 1);
    int[] want = {3, 2 * 14 + 80, 3, 3, 1, 1, 2, 0, 39, 30, 0};
    for (int what = 0; what <= 10; what++) {
      Due.is("many(" + what + ")", x.many(what), want[what]);
    }
    x.land(14);
    Due.is("ice of land is gone", x.many(1), 106);
    Due.is("ice that came ever stays", x.many(9), 30);
    x.ice(8, 60);
    x.pass(0, 0, 1);
    Due.is("waits", x.many(7), 2);
    Due.is("damage", x.many(10), 2);
    Due.is("damage of each", x.ofShip(0, 7) - x.ofShip(2, 7), 0);
    x.pass(0, NONE, 9);
    Due.is("channels are closing", x.many(2), 1);
    x.pass(0, NONE, 12);
    Due.is("no channel is left", x.many(2), 0);
    sums();
    Due.badArgument(x, "many(-1)", () -> x.many(-1));
    Due.badArgument(x, "many(11)", () -> x.many(11));
  }

  /** The first and the last of all count. */
  private static void sums() {
    ChannelWinter x = new ChannelWinter();
    x.port(0);
    for (int ship = 0; ship < 5; ship++) {
      x.ship(ship == 0 || ship == 4 ? 0 : 7, 1, 9, 0);
    }
    x.breaker(1, 100);
    x.breaker(13, 100);
    x.steer(0, 0);
    x.steer(1, 14);
    x.pass(0, NONE, 1);
    Due.is("ships that arrived", x.many(4), 2);
    Due.is("waits of the others", x.many(7), 3);
    Due.is("channels", x.many(2), 2);
    x.ice(0, 7);
    x.ice(14, 8);
    Due.is("ice of all", x.many(1), 15);
    ChannelWinter y = new ChannelWinter();
    y.port(14);
    y.ship(1, 1, 9, 0);
    y.breaker(1, 100);
    y.tow(0, 0);
    for (int ship = 1; ship < 5; ship++) {
      y.ship(ship == 4 ? 1 : 7, 1, 9, 0);
    }
    y.lead(0, 4);
    y.steer(0, 2);
    y.pass(0, NONE, 1);
    Due.is("dues of all", y.many(8), 13);
    y.land(3);
    y.ice(1, 60);
    y.pass(0, EAST, 1);
    Due.is("damage of all", y.many(10), 2);
    Due.is("waits of all", y.many(7), 3 + 5);
  }

  private static void promise21() {
    ChannelWinter x = new ChannelWinter();
    x.ice(0, 100);
    x.ice(1, 7);
    Due.isDouble("mean of 15", x.meanIce(), 107.0 / 15);
    x.land(2);
    Due.isDouble("mean of 14", x.meanIce(), 107.0 / 14);
    x.land(0);
    Due.isDouble("mean of 13", x.meanIce(), 7.0 / 13);
    for (int cell = 0; cell < 15; cell++) {
      if (x.ofCell(cell, 3) == 0 && cell != 1) {
        x.land(cell);
      }
    }
    Due.isDouble("mean of 1", x.meanIce(), 7.0);
    x.land(1);
    Due.isDouble("mean of none", x.meanIce(), 0.0);
  }
}
