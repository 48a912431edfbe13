/** Promises 22 to 26: what would be. */
public final class WouldBeTest {
  private static final int NONE = -1;
  private static final int EAST = 1;

  public static void main(String[] args) {
    promise22();
    promise22Channels();
    promise22FirstCell();
    promise22Longest();
    promise23();
    promise23Fewest();
    promise23Press();
    promise24();
    promise24Waits();
    promise24SixWaits();
    promise25();
    promise25Others();
    promise25AsTheSeaIs();
    promise26();
    promise26Edges();
    Due.end("WouldBeTest");
  }

  private static void promise22() {
    ChannelWinter x = new ChannelWinter();
    Due.outOfBounds(x, "way(0, 0) without a ship", () -> x.way(0, 0));
    x.port(4);
    x.ship(0, 1, 2, 0);
    x.ship(0, 2, 9, 0);
    Due.is("it is there", x.way(0, 0), 0);
    Due.is("a neighbour", x.way(0, 5), 1);
    Due.is("far off", x.way(0, 14), 6);
    x.ice(1, 20);
    Due.is("20 is no more than 10 times 2", x.way(0, 4), 4);
    x.ice(1, 21);
    Due.is("21 is more: around it", x.way(0, 4), 6);
    Due.is("the cell itself can not be entered", x.way(0, 1), NONE);
    Due.is("the other ship can", x.way(1, 4), 4);
    x.ice(1, 50);
    Due.is("50 is no more than it bears", x.way(1, 1), 1);
    x.ice(1, 51);
    Due.is("51 is", x.way(1, 1), NONE);
    x.land(6);
    Due.is("around land", x.way(1, 4), 8);
    Due.is("onto land", x.way(1, 6), NONE);
    x.land(11);
    Due.is("all around is shut", x.way(1, 4), NONE);
    Due.is("within what is shut", x.way(1, 10), 2);
    x.ice(0, 300);
    Due.is("its own cell is not looked at", x.way(1, 0), 0);
    Due.is("nor on its way out", x.way(1, 10), 2);
    Due.outOfBounds(x, "way(-1, 0)", () -> x.way(-1, 0));
    Due.outOfBounds(x, "way(2, 0)", () -> x.way(2, 0));
    Due.outOfBounds(x, "way(0, -1)", () -> x.way(0, -1));
    Due.outOfBounds(x, "way(0, 15)", () -> x.way(0, 15));
  }

  private static void promise22Channels() {
    ChannelWinter x = new ChannelWinter();
    x.port(4);
    x.breaker(0, 100);
    x.ship(0, 1, 9, 0);
    x.ice(1, 123);
    Due.is("without a channel", x.way(0, 1), NONE);
    x.steer(0, 1);
    x.pass(0, NONE, 1);
    Due.is("with a channel", x.way(0, 1), 1);
    x.ice(1, 124);
    Due.is("a quarter of 124 is too much", x.way(0, 1), NONE);
    x.ice(1, 0);
    x.ice(0, 70);
    x.pass(0, EAST, 1);
    Due.is("a press of 7 is too much", x.way(0, 1), NONE);
    x.ice(0, 60);
    x.ice(1, 0);
    x.pass(0, EAST, 1);
    Due.is("6 of ice and a press of 6 are 31 in a channel", x.ofCell(1, 4), 31);
    x.ice(1, 3);
    Due.is("30 are not too much", x.way(0, 1), 1);
  }

  private static void promise22FirstCell() {
    ChannelWinter x = new ChannelWinter();
    x.port(0);
    x.ship(1, 1, 9, 0);
    Due.is("way to 0", x.way(0, 0), 1);
    Due.is("no channel is needed", x.toBreak(0), 0);
    x.ice(0, 31);
    Due.is("no way to 0", x.way(0, 0), NONE);
    Due.is("a channel is needed", x.toBreak(0), 1);
  }

  /** More cells than a route takes: a ship can be told more on its way. */
  private static void promise22Longest() {
    ChannelWinter x = new ChannelWinter();
    x.port(10);
    x.ship(0, 0, 1, 0);
    for (int cell = 5; cell <= 8; cell++) {
      x.land(cell);
    }
    Due.is("ten cells", x.way(0, 10), 10);
  }

  private static void promise23() {
    ChannelWinter x = new ChannelWinter();
    Due.outOfBounds(x, "toBreak(0) without a ship", () -> x.toBreak(0));
    x.port(2);
    x.land(5);
    x.land(6);
    x.land(7);
    x.ship(0, 1, 9, 0);
    x.ship(2, 1, 9, 0);
    x.ship(10, 1, 9, 0);
    Due.is("nothing is in its way", x.toBreak(0), 0);
    Due.is("in that cell", x.toBreak(1), 0);
    x.ice(2, 300);
    Due.is("in that cell, with ice", x.toBreak(1), 0);
    Due.is("300 can not be helped", x.toBreak(0), NONE);
    x.ice(2, 30);
    Due.is("30 need no channel", x.toBreak(0), 0);
    x.ice(2, 31);
    Due.is("31 need one", x.toBreak(0), 1);
    x.ice(1, 123);
    Due.is("a quarter of 123 is 30: helped", x.toBreak(0), 2);
    x.ice(1, 124);
    Due.is("a quarter of 124 is 31: not helped", x.toBreak(0), NONE);
    Due.is("the other way is open", x.toBreak(2), 1);
    x.land(8);
    x.land(9);
    Due.is("no way over land", x.toBreak(2), NONE);
    Due.outOfBounds(x, "toBreak(-1)", () -> x.toBreak(-1));
    Due.outOfBounds(x, "toBreak(3)", () -> x.toBreak(3));
    x.ship(1, 4, 2, 0);
    x.ice(2, 80);
    Due.is("a quarter of 80 is 20: no more than 10 times 2", x.toBreak(3), 1);
    x.ice(2, 84);
    Due.is("a quarter of 84 is 21: more", x.toBreak(3), NONE);
    x.pass(0, NONE, 1);
    Due.is("arrived", x.toBreak(1), 0);
  }

  /** The short way needs two, the long one around the sea needs one. */
  private static void promise23Fewest() {
    ChannelWinter x = new ChannelWinter();
    x.port(3);
    x.ship(0, 2, 9, 0);
    x.breaker(6, 100);
    x.ice(1, 100);
    x.ice(2, 100);
    x.ice(6, 100);
    x.ice(7, 100);
    x.ice(12, 100);
    Due.is("around", x.toBreak(0), 1);
    x.land(10);
    Due.is("straight", x.toBreak(0), 2);
    x.steer(0, 1);
    x.pass(0, NONE, 1);
    Due.is("beyond those that have a channel", x.toBreak(0), 1);
    x.steer(0, 2);
    x.pass(0, NONE, 1);
    Due.is("none is needed", x.toBreak(0), 0);
  }

  private static void promise23Press() {
    ChannelWinter x = new ChannelWinter();
    x.port(1);
    x.land(2);
    x.ship(0, 1, 9, 0);
    x.ice(0, 60);
    x.pass(0, EAST, 1);
    Due.is("1 and a press of 6 are 31", x.way(0, 1), NONE);
    x.ice(1, 3);
    Due.is("a quarter of 3 and 30 of press: helped", x.toBreak(0), 1);
    x.ice(1, 4);
    Due.is("a quarter of 4 and 30 of press: not helped", x.toBreak(0), NONE);
    x.ice(1, 0);
    Due.is("30 of press alone", x.toBreak(0), 0);
  }

  private static void promise24() {
    ChannelWinter x = new ChannelWinter();
    Due.outOfBounds(x, "helpNext(0) without a breaker", () -> x.helpNext(0));
    x.port(2);
    x.port(0);
    x.breaker(12, 100);
    x.breaker(4, 100);
    Due.is("no ship", x.helpNext(0), NONE);
    x.ship(10, 1, 9, 0);
    Due.is("a ship that needs no help", x.helpNext(0), NONE);
    x.ice(2, 100);
    Due.is("a ship that needs help", x.helpNext(0), 0);
    x.ship(14, 1, 9, 0);
    Due.is("as near: the smaller number", x.helpNext(0), 0);
    Due.is("nearer to breaker 1", x.helpNext(1), 1);
    x.ship(12, 0, 9, 0);
    Due.is("one that can not be helped", x.helpNext(0), 0);
    x.ice(2, 40);
    Due.is("the nearest one", x.helpNext(0), 2);
    x.ship(12, 1, 9, 1);
    Due.is("one that needs none", x.helpNext(0), 2);
    x.lead(0, 2);
    Due.is("one that is led", x.helpNext(0), 0);
  }

  private static void promise24Waits() {
    ChannelWinter x = new ChannelWinter();
    x.port(2);
    x.breaker(0, 0);
    x.breaker(10, 0);
    x.ship(0, 1, 1, 0);
    x.ship(11, 1, 1, 0);
    x.ice(1, 11);
    x.ice(2, 100);
    x.ice(7, 11);
    x.ice(3, 11);
    Due.is("100 can not be helped", x.helpNext(0), NONE);
    x.ice(2, 40);
    Due.is("ship 0 is nearer", x.helpNext(0), 0);
    x.sail(1, 6);
    x.sail(1, 7);
    x.pass(0, NONE, 1);
    x.lead(0, 0);
    Due.is("ship 0 is led, ship 1 is left", x.helpNext(0), 1);
    x.halt(0);
    Due.is("ship 1 went", x.ofShip(1, 0), 6);
    x.tow(0, 0);
    Due.is("ship 0 is towed, ship 1 is left", x.helpNext(0), 1);
    x.pass(0, NONE, 1);
    x.halt(0);
    Due.is("free again", x.helpNext(0), 0);
    x.ship(0, 1, 1, 0);
    x.pass(0, NONE, 5);
    Due.is("7 waits of ship 0", x.ofShip(0, 10) + x.ofShip(0, 14), 7);
    Due.is("6 waits of ship 1", x.ofShip(1, 11), 6);
    Due.is("5 waits of ship 2", x.ofShip(2, 10), 5);
    Due.is("0 less 1, against 2 less 1, against 0", x.helpNext(0), 0);
    Due.is("breaker 1: 2 less 1, against 2 less 1, against 2", x.helpNext(1), 0);
    x.sail(0, 1);
    x.ice(1, 0);
    x.pass(0, NONE, 1);
    Due.is("ship 0 went", x.ofShip(0, 0), 1);
    Due.is("1 less 1, against 2 less 1, against 0 less 1", x.helpNext(0), 2);
    Due.is("breaker 1: 3 less 1, against 2 less 1, against 2 less 1", x.helpNext(1), 1);
    x.pass(0, NONE, 24);
    Due.is("its waits of all reasons count", x.ofShip(1, 11), 31);
    Due.is("2 less 5, against 1 less 5, against 0 less 5", x.helpNext(0), 2);
    Due.outOfBounds(x, "helpNext(-1)", () -> x.helpNext(-1));
    Due.outOfBounds(x, "helpNext(2)", () -> x.helpNext(2));
  }

  private static void promise24SixWaits() {
    ChannelWinter x = new ChannelWinter();
    x.port(4);
    x.breaker(0, 0);
    x.ship(1, 1, 1, 0);
    x.ice(3, 30);
    x.ice(4, 30);
    x.pass(0, NONE, 5);
    x.ship(0, 1, 1, 0);
    x.ship(5, 1, 1, 0);
    Due.is("the nearest one", x.helpNext(0), 1);
    x.lead(0, 1);
    Due.is("5 waits are nothing less, but the number is smaller", x.helpNext(0), 0);
    x.halt(1);
    Due.is("1 less 0, against 0", x.helpNext(0), 1);
    x.pass(0, NONE, 1);
    Due.is("1 less 1, against 0", x.helpNext(0), 0);
  }

  private static void promise25() {
    ChannelWinter x = new ChannelWinter();
    Due.outOfBounds(x, "arriveIn(0, 0, 0, 0) without a ship", () -> x.arriveIn(0, 0, 0, 0));
    x.port(4);
    x.ship(0, 1, 9, 0);
    for (int cell = 1; cell <= 4; cell++) {
      x.sail(0, cell);
    }
    long before = x.digest();
    Due.is("four hours", x.arriveIn(0, 24, 0, NONE), 4);
    Due.is("in just four", x.arriveIn(0, 4, 0, NONE), 4);
    Due.is("not in three", x.arriveIn(0, 3, 0, NONE), NONE);
    Due.is("cold that it can bear", x.arriveIn(0, 24, 7, NONE), 4);
    Due.is("cold that it can not bear", x.arriveIn(0, 24, 8, NONE), NONE);
    x.ice(0, 300);
    Due.is("a wind that comes between", x.arriveIn(0, 24, 0, EAST), NONE);
    Due.is("a wind from elsewhere", x.arriveIn(0, 24, 0, 3), 4);
    x.ice(0, 0);
    Due.is("nothing is changed", x.digest(), before);
    Due.badArgument(x, "arriveIn(0, 0, 0, 0)", () -> x.arriveIn(0, 0, 0, 0));
    Due.badArgument(x, "arriveIn(0, 25, 0, 0)", () -> x.arriveIn(0, 25, 0, 0));
    Due.badArgument(x, "arriveIn(0, 1, -1, 0)", () -> x.arriveIn(0, 1, -1, 0));
    Due.badArgument(x, "arriveIn(0, 1, 10, 0)", () -> x.arriveIn(0, 1, 10, 0));
    Due.badArgument(x, "arriveIn(0, 1, 0, -2)", () -> x.arriveIn(0, 1, 0, -2));
    Due.badArgument(x, "arriveIn(0, 1, 0, 4)", () -> x.arriveIn(0, 1, 0, 4));
    Due.outOfBounds(x, "arriveIn(1, 25, 0, 0)", () -> x.arriveIn(1, 25, 0, 0));
    Due.outOfBounds(x, "arriveIn(-1, 1, 0, 0)", () -> x.arriveIn(-1, 1, 0, 0));
    Due.is("it arrives", x.pass(0, NONE, 5), 1);
    Due.is("arrived", x.arriveIn(0, 1, 9, EAST), 0);
    Due.badArgument(x, "arriveIn(0, 25, 0, 0), arrived", () -> x.arriveIn(0, 25, 0, 0));
  }

  private static void promise25Others() {
    ChannelWinter x = new ChannelWinter();
    x.port(3);
    x.rule(0, 2, 24);
    x.breaker(0, 100);
    x.ship(0, 1, 1, 0);
    x.ship(3, 1, 1, 0);
    x.ship(0, 1, 1, 0);
    x.ice(1, 120);
    x.ice(2, 120);
    x.ice(3, 40);
    x.tow(0, 0);
    for (int cell = 1; cell <= 3; cell++) {
      x.steer(0, cell);
      x.sail(2, cell);
    }
    Due.is("the breaker goes ahead", x.arriveIn(0, 24, 0, NONE), 3);
    Due.is("one that is there", x.arriveIn(1, 24, 0, NONE), 1);
    Due.is("one that is too weak", x.arriveIn(2, 24, 0, NONE), NONE);
    Due.is("the breaker did not go", x.ofBreaker(0, 0), 0);
    Due.is("no fuel is gone", x.ofBreaker(0, 1), 100);
    Due.is("the hours did not go by", x.many(0), 0);
    Due.is("no ship arrived", x.many(4), 0);
    Due.is("no channel is there", x.many(2), 0);
    x.pass(0, NONE, 21);
    Due.is("hour 21", x.many(0), 21);
    x.ship(2, 1, 3, 0);
    x.sail(3, 1);
    x.sail(3, 2);
    x.sail(3, 3);
    Due.is("hours are counted from now on: the rule is ahead", x.arriveIn(3, 24, 0, NONE), NONE);
    x.halt(3);
    x.ice(3, 0);
    x.sail(3, 3);
    Due.is("the next hour", x.arriveIn(3, 24, 0, NONE), 1);
    x.pass(0, NONE, 2);
    x.ship(2, 1, 3, 0);
    x.sail(4, 3);
    Due.is("the rule is in force", x.arriveIn(4, 24, 0, NONE), NONE);
    x.exempt(0, 4);
    Due.is("exempt", x.arriveIn(4, 24, 0, NONE), 1);
  }

  private static void promise25AsTheSeaIs() {
    ChannelWinter x = new ChannelWinter();
    x.port(2);
    x.rule(0, 2, 24);
    x.pass(0, NONE, 24);
    x.breaker(0, 100);
    x.ship(0, 1, 9, 0);
    x.ship(2, 1, 9, 0);
    x.ship(0, 2, 9, 0);
    x.sail(2, 1);
    x.sail(2, 2);
    x.ice(1, 180);
    Due.is("no channel there", x.arriveIn(2, 24, 0, NONE), NONE);
    x.ice(1, 140);
    x.steer(0, 1);
    Due.is("a channel that would be there", x.arriveIn(2, 24, 0, NONE), 2);
    x.halt(2);
    x.pass(0, NONE, 1);
    x.ice(1, 180);
    x.sail(2, 1);
    x.sail(2, 2);
    Due.is("a channel that is there", x.arriveIn(2, 24, 0, NONE), 2);
    Due.is("class 1 is kept out", x.arriveIn(1, 24, 0, NONE), NONE);
    x.pass(0, NONE, 10);
    Due.is("class 2 is let in", x.ofShip(2, 4), 3);
    promise25InAChannel();
    promise25ToAnotherPort();
    ChannelWinter y = new ChannelWinter();
    y.port(2);
    y.ship(0, 1, 9, 0);
    y.sail(0, 1);
    y.sail(0, 2);
    Due.is("no land in its way", y.arriveIn(0, 24, 0, NONE), 2);
    y.land(1);
    Due.is("land in its way", y.arriveIn(0, 24, 0, NONE), NONE);
    Due.is("its route is not dropped", y.ofShip(0, 6), 2);
    Due.is("it did not wait", y.many(7), 0);
  }

  /** The trial is the first one of its object: nothing of another can be left in it. */
  private static void promise25InAChannel() {
    ChannelWinter x = new ChannelWinter();
    x.port(1);
    x.breaker(0, 100);
    x.ship(0, 1, 9, 0);
    x.steer(0, 1);
    x.pass(0, NONE, 1);
    x.ice(1, 120);
    x.sail(0, 1);
    Due.is("a channel that is there", x.arriveIn(0, 24, 0, NONE), 1);
  }

  private static void promise25ToAnotherPort() {
    ChannelWinter x = new ChannelWinter();
    x.port(14);
    x.port(1);
    x.ship(0, 1, 9, 1);
    x.sail(0, 1);
    Due.is("its port is the second", x.arriveIn(0, 24, 0, NONE), 1);
  }

  private static void promise26() {
    ChannelWinter x = new ChannelWinter();
    Due.is("digest() of a new object", x.digest(), -8033233564907934082L);
    int[] portCells = {2, 14};
    x.port(portCells[0]);
    x.port(portCells[1]);
    x.rule(0, 3, 24);
    x.rule(1, 2, 50);
    x.breaker(0, 100);
    x.breaker(5, 20);
    x.ship(0, 1, 9, 0);
    x.ship(0, 3, 2, 1);
    x.ship(5, 2, 4, 1);
    x.ice(1, 90);
    x.ice(6, 120);
    x.land(12);
    x.lead(0, 0);
    x.sail(1, 1);
    x.tow(1, 2);
    x.steer(0, 1);
    x.steer(0, 2);
    x.steer(1, 6);
    for (int hour = 0; hour < 5; hour++) {
      Due.is("digest() in hour " + hour, x.digest(), Digest.of(x, portCells));
      Due.is("digest() again", x.digest(), Digest.of(x, portCells));
      x.pass(hour, hour - 1, 1);
    }
    x.pass(3, EAST, 24);
    Due.is("digest() later", x.digest(), Digest.of(x, portCells));
  }

  /** Seas in which a neighbour of 6 HOURS, of a COLD of 1, of no WIND or of HOUR 100 answers otherwise. */
  private static void promise26Edges() {
    int[] portCells = {4};
    for (int later = 99; later <= 101; later++) {
      ChannelWinter x = new ChannelWinter();
      x.port(4);
      x.rule(0, 1, later);
      Due.is("digest() with a rule from " + later, x.digest(), Digest.of(x, portCells));
    }
    int[][] routes = {{1, 2, 3, 8, 9, 4}, {1, 0, 1, 2, 3, 8, 9, 4}};
    for (int[] route : routes) {
      for (int gone = 0; gone <= 1; gone++) {
        ChannelWinter x = new ChannelWinter();
        x.port(4);
        x.ship(0, 1, 9, 0);
        for (int cell : route) {
          x.sail(0, cell);
        }
        x.pass(0, NONE, 1 + gone);
        int hours = route.length - 1 - gone;
        Due.is("it arrives in " + hours, x.arriveIn(0, 24, 0, NONE), hours);
        Due.is("digest(), " + hours + " hours ahead", x.digest(), Digest.of(x, portCells));
      }
    }
    for (int ice = 20; ice <= 30; ice++) {
      ChannelWinter x = new ChannelWinter();
      x.port(4);
      x.ship(0, 1, 9, 0);
      for (int cell = 1; cell <= 4; cell++) {
        x.sail(0, cell);
      }
      x.ice(4, ice);
      x.ice(3, 16);
      Due.is("digest() with " + ice + " of ice", x.digest(), Digest.of(x, portCells));
    }
  }
}
