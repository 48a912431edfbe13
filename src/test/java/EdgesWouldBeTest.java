import java.math.BigInteger;

/** Promises 22 to 26 at their boundaries: each sentence of the document that names one, by itself. */
public final class EdgesWouldBeTest {
  private static final int NONE = Scene.NONE;
  private static final int EAST = Scene.EAST;
  private static final int LEAST_INT = Scene.LEAST_INT;
  private static final int MOST_INT = Scene.MOST_INT;

  private static final int[] BEARS = {10, 30, 50, 80, 120};

  private static final Scene EMPTY = Scene.of();
  private static final Scene PORT_FAR_OFF = Scene.of(x -> x.port(14));
  private static final Scene FIVE_SHIPS = PORT_FAR_OFF.times(5, x -> x.ship(0, 1, 9, 0));
  /** SHIP 0 in CELL 0 can only go to its PORT in CELL 1: all else is shut. */
  private static final Scene STRAIT = Scene.of(x -> x.port(1)).land(2, 5, 6);

  public static void main(String[] args) {
    wayShip();
    wayCell();
    wayCount();
    wayThere();
    wayNone();
    wayByWorth();
    wayByPress();
    wayInAChannel();
    wayNotItsOwn();
    wayLongest();
    toBreakShip();
    toBreakInItsPort();
    toBreakCount();
    toBreakByBearing();
    toBreakByPower();
    toBreakWithPress();
    toBreakBeyondChannels();
    toBreakFewest();
    toBreakNoChannelsHelp();
    helpNextBreaker();
    helpNextNone();
    helpNextByDistance();
    helpNextOfSeveral();
    helpNextLessWaits();
    helpNextOnlyFree();
    helpNextNotArrived();
    arriveInShip();
    arriveInHours();
    arriveInCold();
    arriveInWind();
    arriveInOrder();
    arriveInArrived();
    arriveInWithin();
    arriveInLongest();
    arriveInAsInPass();
    arriveInOfEachCell();
    arriveInOfEachShip();
    nothingIsChanged();
    digestOfNothing();
    digestWrapsAround();
    digestOfEachCount();
    digestOfHour100();
    digestOfSixHours();
    Due.end("EdgesWouldBeTest");
  }

  private static void wayShip() {
    Due.sentence("22: IndexOutOfBoundsException if there is no such SHIP");
    EMPTY.index(x -> x.way(0, 0));
    PORT_FAR_OFF.index(x -> x.way(0, 0));
    FIVE_SHIPS.index(x -> x.way(-1, 0), x -> x.way(5, 0), x -> x.way(LEAST_INT, 0), x -> x.way(MOST_INT, 0));
    FIVE_SHIPS.due(1, x -> x.way(0, 1)).due(1, x -> x.way(4, 1));
  }

  private static void wayCell() {
    Due.sentence("22: IndexOutOfBoundsException if there is no such CELL");
    FIVE_SHIPS.index(x -> x.way(0, -1), x -> x.way(0, 15), x -> x.way(0, LEAST_INT), x -> x.way(0, MOST_INT),
        x -> x.way(5, 15), x -> x.way(-1, -1));
    FIVE_SHIPS.due(0, x -> x.way(0, 0)).due(6, x -> x.way(0, 14));
  }

  private static void wayCount() {
    Due.sentence("22: the fewest CELLS, with this in it, without its own");
    for (int from : Scene.numbers(0, 14)) {
      ChannelWinter x = PORT_FAR_OFF.with(y -> y.ship(from, 0, 1, 0)).make();
      for (int to : Scene.numbers(0, 14)) {
        Due.isHere(x.way(0, to), Math.abs(from / 5 - to / 5) + Math.abs(from % 5 - to % 5));
      }
    }
  }

  private static void wayThere() {
    Due.sentence("22: 0: it is there");
    for (int cell : Scene.numbers(0, 14)) {
      PORT_FAR_OFF.with(x -> x.ship(cell, 0, 1, 0), x -> x.ice(cell, 300)).due(0, x -> x.way(0, cell));
    }
  }

  private static void wayNone() {
    Due.sentence("22: NONE, if it cannot");
    Scene shut = PORT_FAR_OFF.with(x -> x.ship(0, 4, 9, 0), x -> x.ice(1, 91)).land(5);
    for (int cell : Scene.numbers(1, 14)) {
      shut.due(NONE, x -> x.way(0, cell));
    }
    shut.with(x -> x.ice(1, 90)).due(1, x -> x.way(0, 1)).due(6, x -> x.way(0, 14)).due(NONE, x -> x.way(0, 5));
  }

  private static void wayByWorth() {
    Due.sentence("22: could go there by itself: no more than it BEARS and 10 times its POWER");
    for (int rank : Scene.numbers(0, 4)) {
      for (int power : Scene.numbers(1, 9)) {
        int most = Math.min(BEARS[rank], 10 * power);
        Scene ship = PORT_FAR_OFF.with(x -> x.ship(0, rank, power, 0));
        ship.with(x -> x.ice(1, most)).due(1, x -> x.way(0, 1));
        ship.with(x -> x.ice(1, most + 1)).due(NONE, x -> x.way(0, 1)).due(4, x -> x.way(0, 2));
      }
    }
  }

  /** In CELL 1 there is this ICE, and PRESS of some HOURS ago. */
  private static Scene pressed(int ice, int press) {
    return PORT_FAR_OFF.land(2).with(x -> x.ice(0, 10 * press), x -> x.pass(0, EAST, 1), x -> x.ice(1, ice));
  }

  private static void wayByPress() {
    Due.sentence("22: and 5 for each of PRESS");
    for (int press : new int[] {0, 1, 6}) {
      Scene ship = pressed(30 - 5 * press, press).with(x -> x.ship(0, 1, 9, 0)).due(1, x -> x.way(0, 1));
      ship.with(x -> x.ice(1, 31 - 5 * press)).due(NONE, x -> x.way(0, 1));
    }
  }

  private static void wayInAChannel() {
    Due.sentence("22: WORTH a quarter, if there is a CHANNEL");
    Scene broken = PORT_FAR_OFF.with(x -> x.breaker(0, 99), x -> x.ship(0, 1, 9, 0)).steer(0, 1).calm(1);
    for (int hours : new int[] {12, 1}) {
      Scene still = broken.calm(12 - hours).with(x -> x.ice(1, 123)).due(1, x -> x.way(0, 1));
      still.with(x -> x.ice(1, 124)).due(NONE, x -> x.way(0, 1));
    }
    broken.calm(12).with(x -> x.ice(1, 30)).due(1, x -> x.way(0, 1)).with(x -> x.ice(1, 31))
        .due(NONE, x -> x.way(0, 1));
  }

  private static void wayNotItsOwn() {
    Due.sentence("22: its own CELL is not looked at");
    Scene own = PORT_FAR_OFF.with(x -> x.ship(7, 0, 1, 0), x -> x.ice(7, 300));
    own.due(0, x -> x.way(0, 7)).due(1, x -> x.way(0, 8)).due(3, x -> x.way(0, 14));
  }

  private static void wayLongest() {
    Due.sentence("22: the fewest CELLS, however many: beyond the 8 of a ROUTE");
    Scene snake = PORT_FAR_OFF.land(5, 6, 7, 8).with(x -> x.ship(0, 0, 1, 0));
    snake.due(7, x -> x.way(0, 13)).due(8, x -> x.way(0, 12)).due(9, x -> x.way(0, 11)).due(10, x -> x.way(0, 10));
    Scene other = PORT_FAR_OFF.land(1, 6, 8, 13).with(x -> x.ship(0, 0, 1, 0));
    other.due(8, x -> x.way(0, 4)).due(9, x -> x.way(0, 9)).due(10, x -> x.way(0, 14)).due(0, x -> x.toBreak(0));
  }

  private static void toBreakShip() {
    Due.sentence("23: IndexOutOfBoundsException if there is no such SHIP");
    EMPTY.index(x -> x.toBreak(0), x -> x.toBreak(-1));
    PORT_FAR_OFF.index(x -> x.toBreak(0));
    FIVE_SHIPS.index(x -> x.toBreak(-1), x -> x.toBreak(5), x -> x.toBreak(LEAST_INT), x -> x.toBreak(MOST_INT));
    FIVE_SHIPS.with(x -> x.ice(14, 31)).due(1, x -> x.toBreak(0)).due(1, x -> x.toBreak(4));
  }

  private static void toBreakInItsPort() {
    Due.sentence("23: 0 in that CELL");
    Scene there = PORT_FAR_OFF.with(x -> x.ship(14, 0, 1, 0), x -> x.ice(14, 300)).land(9, 13);
    there.due(0, x -> x.toBreak(0)).calm(1).due(3, x -> x.ofShip(0, 4)).due(0, x -> x.toBreak(0));
  }

  private static void toBreakCount() {
    Due.sentence("23: the fewest CELLS that would need a CHANNEL, through any number of CELLS");
    Scene shore = Scene.of(x -> x.port(4)).land(5, 6, 7, 8).with(x -> x.ship(0, 1, 9, 0)).due(0, x -> x.toBreak(0));
    for (int cell : Scene.numbers(1, 4)) {
      shore = shore.with(x -> x.ice(cell, 31)).due(cell, x -> x.toBreak(0));
    }
    shore.with(x -> x.ice(0, 300)).due(4, x -> x.toBreak(0));
    shore.with(x -> x.ice(3, 30)).due(3, x -> x.toBreak(0));
    Scene snake = Scene.of(x -> x.port(10)).land(5, 6, 7, 8).with(x -> x.ship(0, 1, 9, 0));
    for (int cell : new int[] {1, 2, 3, 4, 9, 10, 11, 12, 13, 14}) {
      snake = snake.with(x -> x.ice(cell, 123));
    }
    snake.due(10, x -> x.toBreak(0)).due(NONE, x -> x.way(0, 10));
  }

  private static void toBreakByBearing() {
    Due.sentence("23: a CELL helps, if a quarter of its ICE is no more than it BEARS");
    for (int rank : Scene.numbers(0, 2)) {
      int most = 4 * BEARS[rank] + 3;
      Scene ship = STRAIT.with(x -> x.ship(0, rank, 9, 0));
      ship.with(x -> x.ice(1, BEARS[rank])).due(0, x -> x.toBreak(0));
      ship.with(x -> x.ice(1, BEARS[rank] + 1)).due(1, x -> x.toBreak(0));
      ship.with(x -> x.ice(1, most)).due(1, x -> x.toBreak(0));
      ship.with(x -> x.ice(1, most + 1)).due(NONE, x -> x.toBreak(0));
    }
    for (int rank : Scene.numbers(3, 4)) {
      STRAIT.with(x -> x.ship(0, rank, 9, 0), x -> x.ice(1, 300)).due(1, x -> x.toBreak(0));
    }
  }

  private static void toBreakByPower() {
    Due.sentence("23: and 10 times its POWER");
    for (int power : Scene.numbers(1, 7)) {
      Scene ship = STRAIT.with(x -> x.ship(0, 4, power, 0));
      ship.with(x -> x.ice(1, 10 * power)).due(0, x -> x.toBreak(0));
      ship.with(x -> x.ice(1, 10 * power + 1)).due(1, x -> x.toBreak(0));
      ship.with(x -> x.ice(1, 40 * power + 3)).due(1, x -> x.toBreak(0));
      ship.with(x -> x.ice(1, 40 * power + 4)).due(NONE, x -> x.toBreak(0));
    }
    STRAIT.with(x -> x.ship(0, 4, 8, 0), x -> x.ice(1, 300)).due(1, x -> x.toBreak(0));
  }

  private static void toBreakWithPress() {
    Due.sentence("23: and 5 for each of PRESS");
    for (int press : new int[] {1, 5, 6}) {
      Scene ship = STRAIT.with(x -> x.ice(0, 10 * press), x -> x.pass(0, EAST, 1), x -> x.ship(0, 1, 9, 0));
      int rest = 30 - 5 * press;
      ship.with(x -> x.ice(1, rest)).due(0, x -> x.toBreak(0));
      ship.with(x -> x.ice(1, rest + 1)).due(1, x -> x.toBreak(0));
      ship.with(x -> x.ice(1, 4 * rest + 3)).due(1, x -> x.toBreak(0));
      ship.with(x -> x.ice(1, 4 * rest + 4)).due(NONE, x -> x.toBreak(0));
    }
    Scene heavy = STRAIT.with(x -> x.ice(0, 70), x -> x.pass(0, EAST, 1), x -> x.ice(1, 0), x -> x.ship(0, 1, 9, 0));
    heavy.due(35, x -> x.ofCell(1, 4)).due(NONE, x -> x.toBreak(0));
  }

  private static void toBreakBeyondChannels() {
    Due.sentence("23: beyond those that have one");
    Scene broken = Scene.of(x -> x.port(2)).land(5, 6, 7, 3).with(x -> x.breaker(0, 99), x -> x.ship(0, 1, 9, 0));
    broken = broken.steer(0, 1).calm(1).with(x -> x.ice(1, 123), x -> x.ice(2, 123));
    broken.due(1, x -> x.toBreak(0)).with(x -> x.ice(1, 124)).due(NONE, x -> x.toBreak(0));
    broken.calm(11).due(1, x -> x.ofCell(1, 2)).due(1, x -> x.toBreak(0));
    broken.calm(12).due(0, x -> x.ofCell(1, 2)).due(2, x -> x.toBreak(0));
    broken.steer(0, 2).calm(1).due(0, x -> x.toBreak(0)).due(2, x -> x.way(0, 2));
  }

  private static void toBreakFewest() {
    Due.sentence("23: the fewest CHANNELS, on a longer way, too");
    Scene sea = Scene.of(x -> x.port(2), x -> x.ship(0, 1, 9, 0)).with(x -> x.ice(1, 40)).land(7);
    sea.due(0, x -> x.toBreak(0)).due(2 + 6, x -> x.way(0, 2));
    Scene shut = sea.with(x -> x.ice(13, 40)).due(1, x -> x.toBreak(0));
    shut.with(x -> x.ice(1, 124)).due(1, x -> x.toBreak(0)).with(x -> x.ice(13, 124)).due(NONE, x -> x.toBreak(0));
  }

  private static void toBreakNoChannelsHelp() {
    Due.sentence("23: NONE, if no CHANNELS help");
    Scene land = Scene.of(x -> x.port(2), x -> x.ship(0, 4, 9, 0)).land(1, 5);
    land.due(NONE, x -> x.toBreak(0)).due(NONE, x -> x.way(0, 2));
    Scene beyond = Scene.of(x -> x.port(4), x -> x.ship(0, 1, 9, 0)).land(9, 12)
        .with(x -> x.ice(2, 124), x -> x.ice(7, 40));
    beyond.due(1, x -> x.toBreak(0)).with(x -> x.ice(3, 124)).due(NONE, x -> x.toBreak(0));
    beyond.with(x -> x.ice(4, 124)).due(NONE, x -> x.toBreak(0));
    Scene islands = Scene.of(x -> x.port(14), x -> x.ship(0, 4, 9, 0)).land(2, 7, 12);
    islands.due(NONE, x -> x.toBreak(0)).due(2, x -> x.way(0, 6));
  }

  private static void helpNextBreaker() {
    Due.sentence("24: IndexOutOfBoundsException if there is no such BREAKER");
    EMPTY.index(x -> x.helpNext(0), x -> x.helpNext(-1));
    FIVE_SHIPS.index(x -> x.helpNext(0));
    Scene two = FIVE_SHIPS.with(x -> x.breaker(0, 1), x -> x.breaker(0, 1), x -> x.ice(14, 31));
    two.index(x -> x.helpNext(-1), x -> x.helpNext(2), x -> x.helpNext(LEAST_INT), x -> x.helpNext(MOST_INT));
    two.due(0, x -> x.helpNext(0)).due(0, x -> x.helpNext(1));
  }

  private static void helpNextNone() {
    Due.sentence("24: for which toBreak() is 1 or more; NONE without one");
    EMPTY.with(x -> x.breaker(0, 1)).due(NONE, x -> x.helpNext(0));
    Scene ship = STRAIT.with(x -> x.breaker(1, 1), x -> x.ship(0, 1, 9, 0));
    ship.with(x -> x.ice(1, 30)).due(0, x -> x.toBreak(0)).due(NONE, x -> x.helpNext(0));
    ship.with(x -> x.ice(1, 31)).due(1, x -> x.toBreak(0)).due(0, x -> x.helpNext(0));
    ship.with(x -> x.ice(1, 123)).due(1, x -> x.toBreak(0)).due(0, x -> x.helpNext(0));
    ship.with(x -> x.ice(1, 124)).due(NONE, x -> x.toBreak(0)).due(NONE, x -> x.helpNext(0));
    Scene last = FIVE_SHIPS.with(x -> x.breaker(7, 1)).due(NONE, x -> x.helpNext(0));
    last.with(x -> x.ice(9, 31), x -> x.ice(13, 31)).due(0, x -> x.helpNext(0));
    Scene needsTwo = PORT_FAR_OFF.with(x -> x.ship(0, 1, 9, 0), x -> x.breaker(7, 1)).land(9).with(x -> x.ice(13, 31));
    needsTwo.with(x -> x.ice(14, 31)).due(2, x -> x.toBreak(0)).due(0, x -> x.helpNext(0));
  }

  private static void helpNextByDistance() {
    Due.sentence("24: the smallest number of ROWS and COLUMNS between the two, added");
    Scene shut = PORT_FAR_OFF.with(x -> x.ice(14, 31));
    for (int breaker : Scene.numbers(0, 14)) {
      for (int cell : Scene.numbers(0, 13)) {
        int first = breaker / 5 + breaker % 5;
        int second = Math.abs(breaker / 5 - cell / 5) + Math.abs(breaker % 5 - cell % 5);
        Scene two = shut.with(x -> x.ship(0, 1, 9, 0), x -> x.ship(cell, 1, 9, 0), x -> x.breaker(breaker, 1));
        two.due(second < first ? 1 : 0, x -> x.helpNext(0));
      }
    }
  }

  private static void helpNextOfSeveral() {
    Due.sentence("24: of several that with the smallest number");
    Scene shut = PORT_FAR_OFF.with(x -> x.ice(14, 31), x -> x.breaker(7, 1));
    shut.times(5, x -> x.ship(7, 1, 9, 0)).due(0, x -> x.helpNext(0));
    shut.with(x -> x.ship(6, 1, 9, 0), x -> x.ship(8, 1, 9, 0)).due(0, x -> x.helpNext(0));
    shut.with(x -> x.ship(8, 1, 9, 0), x -> x.ship(6, 1, 9, 0)).due(0, x -> x.helpNext(0));
    shut.with(x -> x.ship(5, 1, 9, 0), x -> x.ship(2, 1, 9, 0), x -> x.ship(12, 1, 9, 0)).due(1, x -> x.helpNext(0));
    shut.times(4, x -> x.ship(0, 1, 9, 0)).with(x -> x.ship(1, 1, 9, 0)).due(4, x -> x.helpNext(0));
  }

  private static void helpNextLessWaits() {
    Due.sentence("24: less (all its WAITS / 6)");
    Scene shut = PORT_FAR_OFF.with(x -> x.ice(14, 31), x -> x.breaker(7, 1), x -> x.ship(5, 1, 9, 0));
    int[] hours = {5, 6, 11, 12, 13, 17, 18};
    for (int waits : hours) {
      Scene waited = shut.calm(waits).due(waits, x -> x.many(7));
      int first = 2 - waits / 6;
      waited.with(x -> x.ship(7, 1, 9, 0)).due(first <= 0 ? 0 : 1, x -> x.helpNext(0));
      waited.with(x -> x.ship(8, 1, 9, 0)).due(first <= 1 ? 0 : 1, x -> x.helpNext(0));
      waited.with(x -> x.ship(9, 1, 9, 0)).due(0, x -> x.helpNext(0));
    }
    Scene below = shut.with(x -> x.ship(7, 1, 9, 0));
    below.calm(12).due(1, x -> x.helpNext(0)).calm(1).due(1, x -> x.helpNext(0));
    Due.sentence("24: all its WAITS: by each REASON");
    Scene mixed = PORT_FAR_OFF.with(x -> x.ice(14, 31), x -> x.breaker(7, 0), x -> x.ship(7, 1, 3, 0)).calm(2);
    mixed = mixed.with(x -> x.ice(6, 31)).sail(0, 6).calm(2).with(x -> x.lead(0, 0)).calm(1);
    Scene five = mixed.with(x -> x.halt(0)).due(5, x -> x.many(7));
    five.calm(1).with(x -> x.breaker(6, 0), x -> x.ship(6, 1, 9, 0)).due(0, x -> x.helpNext(1));
    five.with(x -> x.breaker(6, 0), x -> x.ship(6, 1, 9, 0)).due(1, x -> x.helpNext(1));
  }

  private static void helpNextOnlyFree() {
    Due.sentence("24: of those that are FREE");
    Scene two = PORT_FAR_OFF.with(x -> x.ice(14, 31), x -> x.breaker(7, 1), x -> x.ship(7, 1, 9, 0));
    two.with(x -> x.lead(0, 0)).due(NONE, x -> x.helpNext(0));
    two.with(x -> x.tow(0, 0)).due(NONE, x -> x.helpNext(0));
    two.with(x -> x.tow(0, 0), x -> x.halt(0)).due(0, x -> x.helpNext(0));
    Scene both = two.with(x -> x.ship(0, 1, 9, 0)).due(0, x -> x.helpNext(0));
    both.with(x -> x.lead(0, 0)).due(1, x -> x.helpNext(0));
    both.with(x -> x.tow(0, 0)).due(1, x -> x.helpNext(0));
  }

  private static void helpNextNotArrived() {
    Due.sentence("24: have not ARRIVED");
    Scene arrived = PORT_FAR_OFF.with(x -> x.breaker(14, 1), x -> x.ship(14, 1, 9, 0), x -> x.ice(14, 31)).calm(1);
    arrived.due(NONE, x -> x.helpNext(0)).with(x -> x.ship(0, 1, 9, 0)).due(1, x -> x.helpNext(0));
  }

  private static void arriveInShip() {
    Due.sentence("25: IndexOutOfBoundsException if there is no such SHIP");
    EMPTY.index(x -> x.arriveIn(0, 1, 0, NONE), x -> x.arriveIn(-1, 1, 0, NONE));
    FIVE_SHIPS.index(x -> x.arriveIn(-1, 1, 0, NONE), x -> x.arriveIn(5, 1, 0, NONE),
        x -> x.arriveIn(LEAST_INT, 1, 0, NONE), x -> x.arriveIn(MOST_INT, 1, 0, NONE));
    Scene ends = Scene.of(x -> x.port(1)).times(5, x -> x.ship(0, 1, 9, 0)).sail(0, 1).sail(4, 5, 0, 1);
    ends.due(1, x -> x.arriveIn(0, 24, 0, NONE)).due(3, x -> x.arriveIn(4, 24, 0, NONE));
    ends.due(NONE, x -> x.arriveIn(1, 24, 0, NONE));
  }

  private static void arriveInHours() {
    Due.sentence("25: IllegalArgumentException if hours is not 1 to 24");
    FIVE_SHIPS.argument(x -> x.arriveIn(0, 0, 0, NONE), x -> x.arriveIn(0, 25, 0, NONE),
        x -> x.arriveIn(0, -1, 0, NONE), x -> x.arriveIn(0, LEAST_INT, 0, NONE), x -> x.arriveIn(0, MOST_INT, 0, NONE));
    Scene near = Scene.of(x -> x.port(0), x -> x.ship(0, 1, 9, 0));
    for (int hours : new int[] {1, 2, 23, 24}) {
      near.due(1, x -> x.arriveIn(0, hours, 0, NONE));
      FIVE_SHIPS.due(NONE, x -> x.arriveIn(0, hours, 0, NONE));
    }
  }

  private static void arriveInCold() {
    Due.sentence("25: IllegalArgumentException if cold is not 0 to 9");
    FIVE_SHIPS.argument(x -> x.arriveIn(0, 1, -1, NONE), x -> x.arriveIn(0, 1, 10, NONE),
        x -> x.arriveIn(0, 1, LEAST_INT, NONE), x -> x.arriveIn(0, 1, MOST_INT, NONE));
    for (int cold : new int[] {0, 1, 8, 9}) {
      Scene ship = STRAIT.with(x -> x.ship(0, 1, 9, 0)).sail(0, 1);
      ship.with(x -> x.ice(1, 30 - cold)).due(1, x -> x.arriveIn(0, 1, cold, NONE));
      ship.with(x -> x.ice(1, 31 - cold)).due(NONE, x -> x.arriveIn(0, 1, cold, NONE));
    }
  }

  private static void arriveInWind() {
    Due.sentence("25: IllegalArgumentException if wind is not NONE to 3");
    FIVE_SHIPS.argument(x -> x.arriveIn(0, 1, 0, -2), x -> x.arriveIn(0, 1, 0, 4), x -> x.arriveIn(0, 1, 0, LEAST_INT),
        x -> x.arriveIn(0, 1, 0, MOST_INT));
    int[] givers = {NONE, 12, 6, 2, 8};
    for (int giver : Scene.numbers(0, 3)) {
      Scene ship = Scene.of(x -> x.port(7), x -> x.ship(givers[giver + 1], 0, 1, 0)).sail(0, 7);
      Scene ice = ship.with(x -> x.ice(givers[giver + 1], 20));
      for (int wind : Scene.numbers(-1, 3)) {
        ice.due(wind == giver ? NONE : 1, x -> x.arriveIn(0, 1, 0, wind));
      }
    }
  }

  private static void arriveInOrder() {
    Due.sentence("25: the exception that is named first");
    FIVE_SHIPS.index(x -> x.arriveIn(5, 0, 0, NONE), x -> x.arriveIn(-1, 1, 10, NONE), x -> x.arriveIn(5, 1, 0, 4),
        x -> x.arriveIn(5, 25, -1, -2));
    Scene arrived = PORT_FAR_OFF.with(x -> x.ship(14, 1, 9, 0)).calm(1);
    arrived.argument(x -> x.arriveIn(0, 0, 0, NONE), x -> x.arriveIn(0, 25, 0, NONE), x -> x.arriveIn(0, 1, -1, NONE),
        x -> x.arriveIn(0, 1, 10, NONE), x -> x.arriveIn(0, 1, 0, -2), x -> x.arriveIn(0, 1, 0, 4));
  }

  private static void arriveInArrived() {
    Due.sentence("25: 0, if it has");
    Scene there = PORT_FAR_OFF.with(x -> x.ship(14, 1, 9, 0));
    there.due(1, x -> x.arriveIn(0, 1, 0, NONE)).due(1, x -> x.arriveIn(0, 24, 9, EAST));
    there.calm(1).due(0, x -> x.arriveIn(0, 1, 0, NONE)).due(0, x -> x.arriveIn(0, 24, 9, EAST));
  }

  private static void arriveInWithin() {
    Due.sentence("25: NONE, if not within these");
    Scene route = Scene.of(x -> x.port(2), x -> x.ship(0, 1, 9, 0)).sail(0, 5, 10, 11, 12, 13, 8, 3, 2);
    for (int gone : Scene.numbers(0, 7)) {
      int left = 8 - gone;
      Scene going = route.calm(gone);
      going.due(left, x -> x.arriveIn(0, left, 0, NONE)).due(left, x -> x.arriveIn(0, left + 1, 0, NONE));
      going.due(left, x -> x.arriveIn(0, 24, 0, NONE));
      if (left > 1) {
        going.due(NONE, x -> x.arriveIn(0, left - 1, 0, NONE));
      }
    }
  }

  /** A RULE is lifted in HOUR 48. */
  private static void arriveInLongest() {
    Due.sentence("25: behind how many such HOURS, 24 at most");
    Scene ruled = Scene.of(x -> x.port(1), x -> x.rule(0, 4, 24), x -> x.rule(0, 0, 48)).calm(23);
    ruled.with(x -> x.ship(1, 3, 9, 0)).due(NONE, x -> x.arriveIn(0, 24, 0, NONE));
    Scene at24 = ruled.calm(1).with(x -> x.ship(1, 3, 9, 0)).due(24, x -> x.arriveIn(0, 24, 0, NONE));
    at24.due(NONE, x -> x.arriveIn(0, 23, 0, NONE)).calm(1).due(23, x -> x.arriveIn(0, 23, 0, NONE));
  }

  private static void arriveInAsInPass() {
    Due.sentence("25: if they went by as in pass()");
    Scene convoy = Scene.of(x -> x.port(3), x -> x.breaker(0, 99), x -> x.ship(0, 1, 1, 0), x -> x.ice(1, 100),
        x -> x.ice(2, 130), x -> x.ice(3, 90)).steer(0, 1, 2, 3);
    Scene[] scenes = {convoy, convoy.with(x -> x.tow(0, 0)), convoy.with(x -> x.lead(0, 0)), convoy.sail(0, 1, 2, 3)};
    for (Scene scene : scenes) {
      for (int cold : new int[] {0, 1, 5, 9}) {
        for (int wind : Scene.numbers(-1, 3)) {
          int due = NONE;
          for (int hours = 24; hours >= 1; hours--) {
            int gone = hours;
            due = scene.with(x -> x.pass(cold, wind, gone)).make().ofShip(0, 4) == 3 ? gone : due;
          }
          int hour = due;
          scene.due(hour, x -> x.arriveIn(0, 24, cold, wind));
        }
      }
    }
  }

  /** An object's first trial is one in which nothing of an earlier one can be left. */
  private static void arriveInOfEachCell() {
    Due.sentence("25: CELLS as they are, each one");
    for (int cell : Scene.numbers(0, 14)) {
      int from = cell % 5 == 4 ? cell - 1 : cell + 1;
      Scene ship = Scene.of(x -> x.port(cell), x -> x.ship(from, 1, 9, 0)).sail(0, cell);
      ship.with(x -> x.ice(cell, 30)).due(1, x -> x.arriveIn(0, 24, 0, NONE));
      ship.with(x -> x.ice(cell, 31)).due(NONE, x -> x.arriveIn(0, 24, 0, NONE));
      ship.with(x -> x.ice(cell, 31)).due(NONE, x -> x.way(0, cell)).due(1, x -> x.toBreak(0));
    }
    Scene two = Scene.of(x -> x.port(2), x -> x.ship(0, 1, 9, 0)).sail(0, 1, 2);
    two.due(2, x -> x.arriveIn(0, 24, 0, NONE));
    two.land(1).due(NONE, x -> x.arriveIn(0, 24, 0, NONE)).due(2, x -> x.ofShip(0, 6));
    Scene broken = two.with(x -> x.breaker(6, 99)).steer(0, 1).with(x -> x.halt(0)).calm(1).sail(0, 1, 2);
    broken.with(x -> x.ice(1, 123)).due(2, x -> x.arriveIn(0, 24, 0, NONE));
    broken.with(x -> x.ice(1, 124)).due(NONE, x -> x.arriveIn(0, 24, 0, NONE));
  }

  private static void arriveInOfEachShip() {
    Due.sentence("25: by its own CLASS, POWER, PORT and BREAKER");
    Scene ports = Scene.of(x -> x.port(14), x -> x.port(1), x -> x.rule(1, 3, 24)).calm(24);
    for (int rank : Scene.numbers(0, 4)) {
      ports.with(x -> x.ship(1, rank, 1, 1)).due(rank >= 3 ? 1 : NONE, x -> x.arriveIn(0, 24, 0, NONE));
    }
    Scene exempt = ports.times(2, x -> x.ship(1, 0, 1, 1)).with(x -> Scene.bit(x.exempt(1, 1)));
    exempt.due(NONE, x -> x.arriveIn(0, 24, 0, NONE)).due(1, x -> x.arriveIn(1, 24, 0, NONE));
    for (int power : Scene.numbers(1, 9)) {
      Scene ship = STRAIT.with(x -> x.ship(0, 4, power, 0)).sail(0, 1);
      ship.with(x -> x.ice(1, 10 * power)).due(1, x -> x.arriveIn(0, 24, 0, NONE));
      ship.with(x -> x.ice(1, 10 * power + 1)).due(NONE, x -> x.arriveIn(0, 24, 0, NONE));
    }
    Scene last = Scene.of(x -> x.port(1), x -> x.breaker(7, 99), x -> x.breaker(0, 3), x -> x.ship(0, 1, 1, 0));
    last.with(x -> x.tow(1, 0)).steer(1, 1).due(1, x -> x.arriveIn(0, 24, 0, NONE));
    last.with(x -> x.tow(1, 0)).steer(0, 6, 1).due(NONE, x -> x.arriveIn(0, 24, 0, NONE));
  }

  private static void nothingIsChanged() {
    Due.sentence("what would be: nothing is changed");
    Scene sea = Scene.of(x -> x.port(3), x -> x.breaker(0, 99), x -> x.ship(0, 1, 1, 0), x -> x.ship(9, 2, 5, 0),
        x -> x.ice(1, 100), x -> x.tow(0, 0)).steer(0, 1, 2, 3).sail(1, 8, 3);
    for (Probe probe : Probe.values()) {
      String without = probe.of(sea.make(), 20);
      ChannelWinter x = sea.make();
      x.arriveIn(0, 24, 9, EAST);
      x.arriveIn(1, 24, 0, NONE);
      x.way(0, 3);
      x.toBreak(0);
      x.helpNext(0);
      x.digest();
      Due.isHere(probe.of(x, 20), without);
    }
  }

  private static void digestOfNothing() {
    Due.sentence("26: A number d starts with 4802 (an empty sea)");
    BigInteger d = BigInteger.valueOf(4802);
    for (int zeros = 0; zeros < 11 + 15 * 6; zeros++) {
      d = d.multiply(BigInteger.valueOf(31));
    }
    EMPTY.due(d.longValue(), x -> x.digest());
  }

  /** As large as it gets: the answer is its lowest 64 bits. */
  private static BigInteger unwrapped(ChannelWinter x, int[] portCells) {
    BigInteger d = BigInteger.valueOf(4802);
    for (long v : Digest.values(x, portCells)) {
      d = d.multiply(BigInteger.valueOf(31)).add(BigInteger.valueOf(v));
    }
    return d;
  }

  private static void digestWrapsAround() {
    Due.sentence("26: d * 31 + v, which wraps around as a 64-bit integer");
    int below = 0;
    int above = 0;
    for (int ice : Scene.numbers(0, 40)) {
      ChannelWinter x = PORT_FAR_OFF.with(y -> y.breaker(3, 9), y -> y.ship(0, 1, 1, 0), y -> y.ice(7, ice)).make();
      BigInteger due = unwrapped(x, new int[] {14});
      Due.isHere(due.bitLength() > 64 ? 1 : 0, 1);
      Due.isHere(x.digest(), due.longValue());
      below += due.longValue() < 0 ? 1 : 0;
      above += due.longValue() > Integer.MAX_VALUE ? 1 : 0;
    }
    Due.isHere(below > 0 && above > 0 ? 1 : 0, 1);
  }

  private static void digestOfEachCount() {
    Due.sentence("26: BREAKER by BREAKER, SHIP by SHIP, PORT by PORT");
    int[] portCells = {14, 7, 0};
    for (int ports : Scene.numbers(0, 3)) {
      for (int breakers : Scene.numbers(0, 2)) {
        for (int ships : Scene.numbers(0, ports == 0 ? 0 : 5)) {
          Scene scene = EMPTY.with(x -> x.ice(7, 20), x -> x.ice(14, 31));
          for (int port : Scene.numbers(0, ports - 1)) {
            scene = scene.with(x -> x.port(portCells[port]), x -> x.rule(port, port + 1, 24 + port));
          }
          scene = scene.times(breakers, x -> x.breaker(3, 9)).times(ships, x -> x.ship(1, 1, 1, x.many(3) % ports));
          scene = scene.calm(2);
          Due.isHere(scene.make().digest(), unwrapped(scene.make(), portCells).longValue());
        }
      }
    }
  }

  private static void digestOfHour100() {
    Due.sentence("26: inForce() of NOW and 100");
    for (int later : new int[] {99, 100, 101}) {
      Scene rule = PORT_FAR_OFF.with(x -> x.rule(0, 4, later)).due(later <= 100 ? 4 : 0, x -> x.inForce(0, 100));
      for (int gone : new int[] {98, 99, 100, 101}) {
        Scene later100 = rule.calm(gone).due(gone, x -> x.many(0));
        Due.isHere(later100.make().digest(), unwrapped(later100.make(), new int[] {14}).longValue());
      }
    }
  }

  private static void digestOfSixHours() {
    Due.sentence("26: arriveIn() of 6, 1 and NONE");
    int[] cells = {5, 10, 11, 12, 13, 8, 3, 2};
    for (int gone : Scene.numbers(0, 4)) {
      Scene route = Scene.of(x -> x.port(2), x -> x.ship(0, 1, 9, 0)).sail(0, cells);
      Scene going = route.calm(gone);
      going.due(8 - gone <= 6 ? 8 - gone : NONE, x -> x.arriveIn(0, 6, 1, NONE));
      Due.isHere(going.make().digest(), unwrapped(going.make(), new int[] {2}).longValue());
    }
    Scene windless = Scene.of(x -> x.port(7), x -> x.ice(2, 20), x -> x.ice(6, 20), x -> x.ice(8, 20),
        x -> x.ice(12, 20));
    windless = windless.with(x -> x.ship(12, 0, 1, 0)).sail(0, 7).due(1, x -> x.arriveIn(0, 6, 1, NONE));
    Due.isHere(windless.make().digest(), unwrapped(windless.make(), new int[] {7}).longValue());
    for (int ice : Scene.numbers(28, 31)) {
      Scene cold = STRAIT.with(x -> x.ship(0, 1, 9, 0), x -> x.ice(1, ice)).sail(0, 1);
      cold.due(ice <= 29 ? 1 : NONE, x -> x.arriveIn(0, 6, 1, NONE));
      Due.isHere(cold.make().digest(), unwrapped(cold.make(), new int[] {1}).longValue());
    }
  }
}
