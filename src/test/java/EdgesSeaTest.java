/** Promise 15 and section 1 (the sea) at their boundaries: each sentence that names one, by itself. */
public final class EdgesSeaTest {
  private static final int NONE = Scene.NONE;
  private static final int EAST = Scene.EAST;
  private static final int WEST = Scene.WEST;
  private static final int LEAST_INT = Scene.LEAST_INT;
  private static final int MOST_INT = Scene.MOST_INT;

  private static final Scene EMPTY = Scene.of();

  public static void main(String[] args) {
    passCold();
    passWind();
    passHours();
    passReturns();
    passIsHourByHour();
    passToThe512thCall();
    neighbours();
    driftOntoLand();
    driftRoundedDown();
    driftAllAtOnce();
    driftAbove300();
    pressAtLeast0();
    pressWithoutWind();
    freezingTo300();
    freezingAbove300();
    freezingOfLand();
    freezingBehindDrift();
    freezingEver();
    channelWithoutPress();
    channelWithPress();
    channelByThePressOfThisHour();
    worthByChannel();
    worthByPress();
    Due.end("EdgesSeaTest");
  }

  private static void passCold() {
    Due.sentence("15: IllegalArgumentException if cold is not 0 to 9");
    Scene ice = EMPTY.with(x -> x.ice(7, 100));
    ice.argument(x -> x.pass(-1, NONE, 1), x -> x.pass(10, NONE, 1), x -> x.pass(LEAST_INT, NONE, 1),
        x -> x.pass(MOST_INT, NONE, 1));
    for (int cold : new int[] {0, 1, 8, 9}) {
      ice.due(0, x -> x.pass(cold, NONE, 1)).due(100 + cold, x -> x.ofCell(7, 0)).due(cold, x -> x.ofCell(0, 0))
          .due(cold, x -> x.ofCell(14, 0));
    }
  }

  private static void passWind() {
    Due.sentence("15: IllegalArgumentException if wind is not NONE to 3");
    Scene ice = EMPTY.with(x -> x.ice(7, 100));
    ice.argument(x -> x.pass(0, -2, 1), x -> x.pass(0, 4, 1), x -> x.pass(0, LEAST_INT, 1),
        x -> x.pass(0, MOST_INT, 1));
    int[] takers = {7, 2, 8, 12, 6};
    for (int wind : Scene.numbers(-1, 3)) {
      Scene gone = ice.due(0, x -> x.pass(0, wind, 1)).due(wind == NONE ? 100 : 90, x -> x.ofCell(7, 0));
      gone.due(wind == NONE ? 100 : 10, x -> x.ofCell(takers[wind + 1], 0));
    }
  }

  private static void passHours() {
    Due.sentence("15: IllegalArgumentException if hours is not 1 to 24");
    EMPTY.argument(x -> x.pass(0, NONE, 0), x -> x.pass(0, NONE, 25), x -> x.pass(0, NONE, -1),
        x -> x.pass(0, NONE, LEAST_INT), x -> x.pass(0, NONE, MOST_INT), x -> x.pass(10, 4, 25));
    for (int hours : new int[] {1, 2, 23, 24}) {
      EMPTY.due(0, x -> x.pass(1, NONE, hours)).due(hours, x -> x.many(0)).due(hours, x -> x.ofCell(7, 0));
    }
  }

  private static void passReturns() {
    Due.sentence("15: Returns how many SHIPS ARRIVED");
    Scene port = Scene.of(x -> x.port(2), x -> x.port(7));
    port.due(0, x -> x.pass(0, NONE, 1));
    for (int count : Scene.numbers(1, 5)) {
      Scene ships = port.times(count, x -> x.ship(2, 0, 1, 0));
      ships.due(count, x -> x.pass(0, NONE, 1)).due(0, x -> x.pass(0, NONE, 24));
      ships.due(count, x -> x.pass(0, NONE, 24)).due(count, x -> x.many(4));
    }
    Scene apart = port.with(x -> x.ship(2, 0, 1, 0), x -> x.ship(0, 0, 1, 0), x -> x.ship(0, 0, 1, 1),
        x -> x.ship(14, 0, 1, 0));
    apart = apart.sail(1, 1, 2).sail(2, 5, 6, 7);
    apart.due(1, x -> x.pass(0, NONE, 1)).due(1, x -> x.pass(0, NONE, 1)).due(1, x -> x.pass(0, NONE, 1))
        .due(0, x -> x.pass(0, NONE, 1));
    apart.due(2, x -> x.pass(0, NONE, 2));
    apart.due(3, x -> x.pass(0, NONE, 3));
    apart.due(3, x -> x.pass(0, NONE, 24)).due(3, x -> x.many(4));
  }

  private static void passIsHourByHour() {
    Due.sentence("15: some HOURS are as many calls of one");
    Scene full = Scene.of(x -> x.port(4), x -> x.breaker(0, 99), x -> x.ship(0, 1, 1, 0), x -> x.ice(2, 140),
        x -> x.tow(0, 0)).steer(0, 1, 2, 3, 4);
    for (int hours : Scene.numbers(1, 24)) {
      ChannelWinter atOnce = full.make();
      atOnce.pass(1, EAST, hours);
      Due.isHere(atOnce.digest(), full.times(hours, x -> x.pass(1, EAST, 1)).make().digest());
    }
  }

  private static void passToThe512thCall() {
    Due.sentence("An object is used for at most 512 calls: the last one holds");
    Scene longest = Scene.of(x -> x.port(14), x -> x.ship(0, 0, 1, 0)).times(509, x -> x.pass(9, EAST, 24));
    int now = 509 * 24;
    longest.due(now, x -> x.many(0));
    longest.due(now, x -> x.ofShip(0, 10));
    longest.due(now, x -> x.many(7));
    longest.due(now + 200, x -> x.rule(0, 4, 200));
    longest.due(0, x -> x.pass(9, EAST, 24));
    longest.due(0, x -> x.many(2));
    Scene still = Scene.of(x -> x.port(14)).times(510, x -> x.pass(9, NONE, 24));
    still.due(15 * 300, x -> x.many(1));
    still.due(15 * 300, x -> x.many(9));
    still.due(1, x -> x.port(0));
    still.due(0, x -> x.inForce(0, MOST_INT));
  }

  /** The CELL there, NONE without one, told by ROWS and COLUMNS. */
  private static int neighbour(int cell, int direction) {
    int[] rows = {-1, 0, 1, 0};
    int[] columns = {0, 1, 0, -1};
    int row = cell / 5 + rows[direction];
    int column = cell % 5 + columns[direction];
    boolean there = row >= 0 && row <= 2 && column >= 0 && column <= 4;
    return there ? row * 5 + column : NONE;
  }

  private static void neighbours() {
    Due.sentence("section 1: each CELL whose NEIGHBOUR in that DIRECTION is there gives");
    for (int cell : Scene.numbers(0, 14)) {
      for (int wind : Scene.numbers(0, 3)) {
        int taker = neighbour(cell, wind);
        Scene gone = EMPTY.with(x -> x.ice(cell, 100), x -> x.pass(0, wind, 1)).due(100, x -> x.many(1));
        gone.due(taker == NONE ? 100 : 90, x -> x.ofCell(cell, 0));
        for (int other : Scene.numbers(0, 14)) {
          gone.due(other == taker ? 10 : 0, x -> x.ofCell(other, 1));
        }
      }
    }
  }

  private static void driftOntoLand() {
    Due.sentence("section 1: and no LAND; on LAND there is no ICE");
    for (int cell : Scene.numbers(0, 14)) {
      for (int wind : Scene.numbers(0, 3)) {
        int taker = neighbour(cell, wind);
        if (taker != NONE) {
          Scene shut = EMPTY.with(x -> x.ice(cell, 100)).land(taker).with(x -> x.pass(0, wind, 1));
          shut.due(100, x -> x.ofCell(cell, 0)).due(0, x -> x.ofCell(taker, 0)).due(0, x -> x.ofCell(taker, 1));
          Scene from = EMPTY.with(x -> x.ice(taker, 100), x -> x.ice(cell, 100)).land(cell)
              .with(x -> x.pass(0, wind, 1));
          from.due(0, x -> x.ofCell(cell, 0)).due(0, x -> x.ofCell(taker, 1));
        }
      }
    }
  }

  private static void driftRoundedDown() {
    Due.sentence("section 1: a tenth of its ICE, rounded down");
    int[] ices = {0, 1, 9, 10, 11, 19, 20, 99, 100, 289, 290, 299, 300};
    int[] tenths = {0, 0, 0, 1, 1, 1, 2, 9, 10, 28, 29, 29, 30};
    for (int i : Scene.numbers(0, ices.length - 1)) {
      Scene gone = EMPTY.with(x -> x.ice(3, ices[i]), x -> x.pass(0, EAST, 1));
      gone.due(ices[i] - tenths[i], x -> x.ofCell(3, 0)).due(tenths[i], x -> x.ofCell(4, 0));
      gone.due(tenths[i], x -> x.ofCell(4, 1)).due(0, x -> x.ofCell(3, 1));
    }
  }

  private static void driftAllAtOnce() {
    Due.sentence("section 1: all at once, by what they had ahead of this");
    Scene two = EMPTY.with(x -> x.ice(6, 100), x -> x.ice(7, 99), x -> x.ice(8, 100));
    two.with(x -> x.pass(0, EAST, 1)).due(90, x -> x.ofCell(6, 0)).due(100, x -> x.ofCell(7, 0))
        .due(99, x -> x.ofCell(8, 0)).due(10, x -> x.ofCell(9, 0));
    two.with(x -> x.pass(0, WEST, 1)).due(10, x -> x.ofCell(5, 0)).due(99, x -> x.ofCell(6, 0))
        .due(100, x -> x.ofCell(7, 0)).due(90, x -> x.ofCell(8, 0));
    Scene column = EMPTY.with(x -> x.ice(2, 100), x -> x.ice(7, 99), x -> x.ice(12, 100));
    column.with(x -> x.pass(0, Scene.SOUTH, 1)).due(90, x -> x.ofCell(2, 0)).due(100, x -> x.ofCell(7, 0))
        .due(109, x -> x.ofCell(12, 0));
    column.with(x -> x.pass(0, Scene.NORTH, 1)).due(109, x -> x.ofCell(2, 0)).due(100, x -> x.ofCell(7, 0))
        .due(90, x -> x.ofCell(12, 0));
  }

  private static void driftAbove300() {
    Due.sentence("section 1: what DRIFTS can be more");
    Scene full = EMPTY.with(x -> x.ice(3, 300), x -> x.ice(4, 300), x -> x.pass(0, EAST, 1));
    full.due(330, x -> x.ofCell(4, 0)).due(30, x -> x.ofCell(4, 1)).due(600, x -> x.many(1));
    full.with(x -> x.pass(0, WEST, 1)).due(297, x -> x.ofCell(4, 0)).due(270 + 33 - 27, x -> x.ofCell(3, 0))
        .due(33 - 27, x -> x.ofCell(3, 1)).due(27, x -> x.ofCell(2, 0));
    full.with(x -> x.pass(0, EAST, 1)).due(357, x -> x.ofCell(4, 0)).due(27, x -> x.ofCell(4, 1));
  }

  private static void pressAtLeast0() {
    Due.sentence("section 1: PRESS is what it got less what it gave (0 at least)");
    int[] got = {0, 3, 4, 5, 6, 7, 30};
    for (int some : got) {
      Scene gone = EMPTY.with(x -> x.ice(0, 10 * some), x -> x.ice(1, 59), x -> x.pass(0, EAST, 1));
      gone.due(Math.max(0, some - 5), x -> x.ofCell(1, 1)).due(59 + some - 5, x -> x.ofCell(1, 0));
      gone.due(5, x -> x.ofCell(2, 1)).due(0, x -> x.ofCell(0, 1));
    }
  }

  private static void pressWithoutWind() {
    Due.sentence("section 1: without a WIND 0");
    Scene press = EMPTY.with(x -> x.ice(0, 100), x -> x.pass(0, EAST, 1)).due(10, x -> x.ofCell(1, 1));
    press.with(x -> x.pass(0, NONE, 1)).due(0, x -> x.ofCell(1, 1)).due(10, x -> x.ofCell(1, 0));
    press.with(x -> x.pass(9, NONE, 1)).due(0, x -> x.ofCell(1, 1)).due(19, x -> x.ofCell(1, 4));
    Scene turned = press.with(x -> x.ice(0, 0), x -> x.pass(0, EAST, 1));
    turned.due(0, x -> x.ofCell(1, 1)).due(1, x -> x.ofCell(2, 1));
  }

  private static void freezingTo300() {
    Due.sentence("section 1: COLD more, but not above 300 by that");
    for (int ice : new int[] {0, 290, 291, 292, 299, 300}) {
      int frozen = Math.min(300, ice + 9);
      Scene cold = EMPTY.with(x -> x.ice(7, ice), x -> x.pass(9, NONE, 1));
      cold.due(frozen, x -> x.ofCell(7, 0)).due(frozen - ice + 14 * 9, x -> x.many(9));
      EMPTY.with(x -> x.ice(7, ice), x -> x.pass(1, NONE, 1)).due(Math.min(300, ice + 1), x -> x.ofCell(7, 0));
      EMPTY.with(x -> x.ice(7, ice), x -> x.pass(0, NONE, 1)).due(ice, x -> x.ofCell(7, 0)).due(0, x -> x.many(9));
    }
    EMPTY.times(2, x -> x.pass(9, NONE, 24)).due(300, x -> x.ofCell(0, 0)).due(15 * 300, x -> x.many(9));
  }

  /** CELL 4 has nothing behind it in the east: what comes there stays. */
  private static void freezingAbove300() {
    Due.sentence("section 1: what DRIFTS can be more, and stays");
    for (int ice : new int[] {288, 289, 290, 291, 292, 299, 300}) {
      Scene drifted = EMPTY.with(x -> x.ice(3, 100), x -> x.ice(4, ice), x -> x.pass(2, EAST, 1));
      int due = ice + 10 >= 300 ? ice + 10 : Math.min(300, ice + 12);
      drifted.due(due, x -> x.ofCell(4, 0)).due(13 * 2 + 2 + due - ice - 10, x -> x.many(9));
      drifted.with(x -> x.pass(9, NONE, 24)).due(Math.max(300, due), x -> x.ofCell(4, 0));
    }
  }

  private static void freezingOfLand() {
    Due.sentence("section 1: (no LAND)");
    EMPTY.land(0, 7, 14).with(x -> x.pass(9, NONE, 24)).due(0, x -> x.ofCell(0, 0)).due(0, x -> x.ofCell(7, 0))
        .due(0, x -> x.ofCell(14, 0)).due(12 * 9 * 24, x -> x.many(9)).due(12 * 9 * 24, x -> x.many(1));
  }

  private static void freezingBehindDrift() {
    Due.sentence("section 1: in this order: DRIFT, FREEZING");
    Scene nine = EMPTY.with(x -> x.ice(3, 9), x -> x.pass(1, EAST, 1));
    nine.due(10, x -> x.ofCell(3, 0)).due(1, x -> x.ofCell(4, 0)).due(0, x -> x.ofCell(4, 1));
    EMPTY.with(x -> x.ice(3, 300), x -> x.pass(9, EAST, 1)).due(279, x -> x.ofCell(3, 0)).due(39, x -> x.ofCell(4, 0));
  }

  private static void freezingEver() {
    Due.sentence("20: ICE that came by FREEZING ever");
    Scene frozen = EMPTY.with(x -> x.pass(1, NONE, 1)).due(15, x -> x.many(9));
    frozen.land(7).due(15, x -> x.many(9)).due(14, x -> x.many(1)).with(x -> x.pass(1, NONE, 1))
        .due(29, x -> x.many(9));
    frozen.with(x -> x.ice(7, 300), x -> x.ice(8, 0)).due(15, x -> x.many(9));
    frozen.with(x -> x.ice(7, 100), x -> x.pass(0, EAST, 1)).due(15, x -> x.many(9));
  }

  /** CELL 1 has a CHANNEL of just so many HOURS; it gives nothing to CELL 2, and CELL 0 is without ICE. */
  private static Scene channel(int hours) {
    return Scene.of(x -> x.breaker(0, 99)).land(2).steer(0, 1).calm(1 + 12 - hours);
  }

  private static void channelWithoutPress() {
    Due.sentence("section 1: A CHANNEL is 1 less (0 at least)");
    for (int hours : Scene.numbers(0, 12)) {
      channel(hours).due(hours, x -> x.ofCell(1, 2)).due(hours > 0 ? 1 : 0, x -> x.many(2));
    }
    channel(0).calm(24).due(0, x -> x.ofCell(1, 2)).due(0, x -> x.many(2));
  }

  private static void channelWithPress() {
    Due.sentence("section 1: with a PRESS of 3 or more 3 less (0 at least)");
    for (int press : new int[] {0, 1, 2, 3, 4, 30}) {
      int less = press >= 3 ? 3 : 1;
      for (int hours : new int[] {0, 1, 2, 3, 4, 5, 12}) {
        Scene pressed = channel(hours).with(x -> x.ice(0, 10 * press), x -> x.pass(0, EAST, 1));
        pressed.due(press, x -> x.ofCell(1, 1)).due(Math.max(0, hours - less), x -> x.ofCell(1, 2));
      }
    }
  }

  private static void channelByThePressOfThisHour() {
    Due.sentence("section 1: PRESS of this HOUR, not of the one ahead");
    Scene pressed = channel(12).with(x -> x.ice(0, 30), x -> x.pass(0, EAST, 1)).due(9, x -> x.ofCell(1, 2));
    pressed.calm(1).due(8, x -> x.ofCell(1, 2));
    pressed.with(x -> x.pass(0, WEST, 1)).due(8, x -> x.ofCell(1, 2));
  }

  private static void worthByChannel() {
    Due.sentence("section 1: its ICE, or a quarter of that, rounded down, if there is a CHANNEL");
    int[] ices = {0, 1, 3, 4, 5, 7, 8, 299, 300};
    int[] quarters = {0, 0, 0, 1, 1, 1, 2, 74, 75};
    for (int i : Scene.numbers(0, ices.length - 1)) {
      for (int hours : new int[] {1, 2, 12}) {
        channel(hours).with(x -> x.ice(1, ices[i])).due(quarters[i], x -> x.ofCell(1, 4));
      }
      channel(0).with(x -> x.ice(1, ices[i])).due(ices[i], x -> x.ofCell(1, 4));
      EMPTY.with(x -> x.ice(1, ices[i])).due(ices[i], x -> x.ofCell(1, 4));
    }
  }

  private static void worthByPress() {
    Due.sentence("section 1: and 5 for each of PRESS");
    for (int press : new int[] {0, 1, 2, 30}) {
      Scene pressed = EMPTY.land(2).with(x -> x.ice(0, 10 * press), x -> x.pass(0, EAST, 1), x -> x.ice(1, 41));
      pressed.due(41 + 5 * press, x -> x.ofCell(1, 4));
      Scene broken = channel(12).with(x -> x.ice(0, 10 * press), x -> x.pass(0, EAST, 1), x -> x.ice(1, 43));
      broken.due(10 + 5 * press, x -> x.ofCell(1, 4));
    }
  }
}
