/** Promise 15: hours go by, as sections 1 to 4 of the document tell it. */
public final class PassTest {
  private static final int NONE = -1;
  private static final int EAST = 1;

  private static final int BY_NOTHING = 10;
  private static final int BY_POWER = 11;
  private static final int BY_BEARING = 12;
  private static final int BY_RULE = 13;
  private static final int BY_BREAKER = 14;

  public static void main(String[] args) {
    arguments();
    hoursAreCounted();
    drift();
    driftInEachDirection();
    freezing();
    channelsClose();
    breakersGo();
    breakersAreStuck();
    breakersDropRoutes();
    shipsSail();
    shipsBearByClass();
    shipsUseChannels();
    shipsDropRoutes();
    shipsAreLed();
    shipsThatCanNotFollow();
    shipsAreTowed();
    shipsWaitForBreakers();
    shipsArrive();
    shipsArriveBehindBreakers();
    rulesKeepShipsOut();
    damage();
    Due.end("PassTest");
  }

  private static void arguments() {
    ChannelWinter x = new ChannelWinter();
    x.ice(3, 100);
    Due.badArgument(x, "pass(-1, 0, 1)", () -> x.pass(-1, 0, 1));
    Due.badArgument(x, "pass(10, 0, 1)", () -> x.pass(10, 0, 1));
    Due.badArgument(x, "pass(0, -2, 1)", () -> x.pass(0, -2, 1));
    Due.badArgument(x, "pass(0, 4, 1)", () -> x.pass(0, 4, 1));
    Due.badArgument(x, "pass(0, 0, 0)", () -> x.pass(0, 0, 0));
    Due.badArgument(x, "pass(0, 0, 25)", () -> x.pass(0, 0, 25));
    Due.badArgument(x, "pass(0, 0, -1)", () -> x.pass(0, 0, -1));
    Due.is("pass(9, 3, 24)", x.pass(9, 3, 24), 0);
    Due.is("pass(0, -1, 1)", x.pass(0, NONE, 1), 0);
    Due.is("many(0)", x.many(0), 25);
  }

  private static void hoursAreCounted() {
    ChannelWinter x = new ChannelWinter();
    x.port(2);
    for (int cell = 1; cell <= 2; cell++) {
      x.ship(cell, 1, 5, 0);
      x.ship(cell, 1, 5, 0);
    }
    x.sail(0, 2);
    Due.is("three arrive", x.pass(0, NONE, 1), 3);
    Due.is("in hour 1", x.ofShip(0, 9), 1);
    Due.is("none arrives", x.pass(0, NONE, 24), 0);
    x.sail(1, 2);
    Due.is("one arrives in the first of 3", x.pass(0, NONE, 3), 1);
    Due.is("in hour 26", x.ofShip(1, 9), 26);
  }

  private static void drift() {
    ChannelWinter x = new ChannelWinter();
    x.ice(0, 100);
    x.ice(1, 57);
    x.ice(4, 109);
    x.ice(5, 19);
    x.ice(10, 100);
    x.ice(11, 100);
    x.ice(12, 100);
    x.land(13);
    x.pass(0, EAST, 1);
    int[] ice = {90, 62, 5, 0, 109, 18, 1, 0, 0, 0, 90, 100, 110, 0, 0};
    int[] press = {0, 5, 5, 0, 0, 0, 1, 0, 0, 0, 0, 0, 10, 0, 0};
    for (int cell = 0; cell < 15; cell++) {
      Due.is("ice of " + cell + " behind an east wind", x.ofCell(cell, 0), ice[cell]);
      Due.is("press of " + cell + " behind an east wind", x.ofCell(cell, 1), press[cell]);
    }
    x.pass(0, NONE, 1);
    for (int cell = 0; cell < 15; cell++) {
      Due.is("ice of " + cell + " without a wind", x.ofCell(cell, 0), ice[cell]);
      Due.is("press of " + cell + " without a wind", x.ofCell(cell, 1), 0);
    }
  }

  private static void driftInEachDirection() {
    int[] takers = {2, 8, 12, 6};
    int[] edges = {0, 4, 14, 10};
    for (int wind = 0; wind < 4; wind++) {
      ChannelWinter x = new ChannelWinter();
      x.ice(7, 100);
      x.ice(edges[wind], 70);
      x.pass(0, wind, 1);
      Due.is("ice given in direction " + wind, x.ofCell(7, 0), 90);
      Due.is("ice taken in direction " + wind, x.ofCell(takers[wind], 0), 10);
      Due.is("press in direction " + wind, x.ofCell(takers[wind], 1), 10);
      Due.is("ice of the edge in direction " + wind, x.ofCell(edges[wind], 0), 70);
      Due.is("all ice", x.many(1), 170);
    }
  }

  private static void freezing() {
    ChannelWinter x = new ChannelWinter();
    x.ice(0, 295);
    x.ice(3, 300);
    x.ice(4, 300);
    x.land(14);
    x.pass(9, EAST, 1);
    Due.is("ice that froze to 300", x.ofCell(0, 0), 266 + 9);
    Due.is("ice that drifted over 300 stays", x.ofCell(4, 0), 330);
    Due.is("land does not freeze", x.ofCell(14, 0), 0);
    Due.is("ice of 3", x.ofCell(3, 0), 270 + 9);
    Due.is("ice of 1", x.ofCell(1, 0), 29 + 9);
    Due.is("many(9)", x.many(9), 13 * 9);
    x.ice(0, 300);
    x.ice(3, 299);
    x.ice(1, 292);
    x.pass(9, NONE, 1);
    Due.is("ice of 0", x.ofCell(0, 0), 300);
    Due.is("ice of 3", x.ofCell(3, 0), 300);
    Due.is("ice of 1", x.ofCell(1, 0), 300);
    Due.is("ice of 4", x.ofCell(4, 0), 330);
    Due.is("many(9) again", x.many(9), 13 * 9 + 1 + 8 + 10 * 9);
    x.pass(0, NONE, 1);
    Due.is("many(9) without cold", x.many(9), 13 * 9 + 1 + 8 + 10 * 9);
  }

  private static void channelsClose() {
    ChannelWinter x = new ChannelWinter();
    x.breaker(0, 100);
    x.steer(0, 1);
    x.pass(0, NONE, 1);
    Due.is("channel of the cell that it entered", x.ofCell(1, 2), 12);
    Due.is("channel of the cell that it left", x.ofCell(0, 2), 0);
    x.ice(0, 20);
    x.pass(0, EAST, 1);
    Due.is("press of 2", x.ofCell(1, 1), 2);
    Due.is("channel with a press of 2", x.ofCell(1, 2), 11);
    x.ice(0, 30);
    x.ice(1, 0);
    x.pass(0, EAST, 1);
    Due.is("press of 3", x.ofCell(1, 1), 3);
    Due.is("channel with a press of 3", x.ofCell(1, 2), 8);
    x.pass(0, NONE, 7);
    Due.is("channel later", x.ofCell(1, 2), 1);
    x.ice(0, 100);
    x.pass(0, EAST, 1);
    Due.is("channel that has no 3 to lose", x.ofCell(1, 2), 0);
    x.pass(0, NONE, 1);
    Due.is("channel that is closed", x.ofCell(1, 2), 0);
    x.steer(0, 2);
    x.pass(0, NONE, 12);
    Due.is("channel 11 hours later", x.ofCell(2, 2), 1);
    x.pass(0, NONE, 1);
    Due.is("channel 12 hours later", x.ofCell(2, 2), 0);
  }

  private static void breakersGo() {
    ChannelWinter x = new ChannelWinter();
    x.ice(1, 140);
    x.ice(6, 29);
    x.breaker(0, 11);
    x.steer(0, 1);
    x.steer(0, 6);
    x.pass(9, NONE, 1);
    Due.is("149 costs 7", x.ofBreaker(0, 1), 4);
    Due.is("it went", x.ofBreaker(0, 0), 1);
    Due.is("cells left", x.ofBreaker(0, 2), 1);
    Due.is("the ice stays", x.ofCell(1, 0), 149);
    x.ice(6, 59);
    x.pass(0, NONE, 1);
    Due.is("59 costs 4", x.ofBreaker(0, 1), 0);
    Due.is("it went on", x.ofBreaker(0, 0), 6);
    Due.is("no cells left", x.ofBreaker(0, 2), 0);
    x.pass(0, NONE, 1);
    Due.is("without a route it is not stuck", x.ofBreaker(0, 5), 0);
    ChannelWinter y = new ChannelWinter();
    y.ice(0, 100);
    y.ice(1, 90);
    y.land(2);
    y.breaker(0, 6);
    y.steer(0, 1);
    y.pass(0, EAST, 1);
    Due.is("100 of ice and a press of 10 are 150", y.ofBreaker(0, 0), 1);
    Due.is("press costs nothing", y.ofBreaker(0, 1), 0);
  }

  private static void breakersAreStuck() {
    ChannelWinter x = new ChannelWinter();
    x.ice(1, 150);
    x.breaker(0, 7);
    x.breaker(0, 8);
    x.steer(0, 1);
    x.steer(0, 2);
    x.steer(1, 1);
    x.pass(0, NONE, 1);
    Due.is("150 costs 8, it has 7", x.ofBreaker(0, 5), 1);
    Due.is("it stays", x.ofBreaker(0, 0), 0);
    Due.is("fuel of one that is stuck", x.ofBreaker(0, 1), 7);
    Due.is("route of one that is stuck", x.ofBreaker(0, 2), 2);
    Due.is("the one with 8 went", x.ofBreaker(1, 0), 1);
    Due.is("it is not stuck", x.ofBreaker(1, 5), 0);
    x.ice(1, 30);
    x.pass(0, NONE, 1);
    Due.is("it went when the ice was less", x.ofBreaker(0, 0), 1);
    Due.is("its hours are kept", x.ofBreaker(0, 5), 1);

    ChannelWinter y = new ChannelWinter();
    y.ice(0, 100);
    y.ice(1, 91);
    y.ice(5, 149);
    y.land(2);
    y.breaker(0, 99);
    y.breaker(0, 99);
    y.steer(0, 1);
    y.steer(1, 5);
    y.pass(2, EAST, 1);
    Due.is("103 of ice and a press of 10 are too much", y.ofBreaker(0, 5), 1);
    Due.is("no channel there", y.ofCell(1, 2), 0);
    Due.is("136 and 2 of ice are not too much", y.ofBreaker(1, 0), 5);
    ChannelWinter z = new ChannelWinter();
    z.ice(1, 149);
    z.breaker(0, 99);
    z.steer(0, 1);
    z.pass(2, NONE, 3);
    Due.is("151 of ice are too much", z.ofBreaker(0, 5), 3);
  }

  private static void breakersDropRoutes() {
    int[] wrong = {0, 2, 4, 9, 14, 8};
    for (int cell : wrong) {
      ChannelWinter x = new ChannelWinter();
      x.breaker(cell == 8 || cell == 9 ? 3 : 0, 9);
      x.land(8);
      x.steer(0, cell);
      x.steer(0, 1);
      x.pass(0, NONE, 1);
      Due.is("route with " + cell + " at first", x.ofBreaker(0, 2), 0);
      Due.is("it is not stuck", x.ofBreaker(0, 5), 0);
      Due.is("fuel stays", x.ofBreaker(0, 1), 9);
    }
    ChannelWinter y = new ChannelWinter();
    y.breaker(4, 9);
    y.steer(0, 5);
    y.pass(0, NONE, 1);
    Due.is("5 is no neighbour of 4", y.ofBreaker(0, 0), 4);
    Due.is("the route is dropped", y.ofBreaker(0, 2), 0);
  }

  private static void shipsSail() {
    ChannelWinter x = new ChannelWinter();
    x.port(14);
    x.ship(0, 3, 4, 0);
    x.sail(0, 1);
    x.sail(0, 2);
    x.ice(1, 39);
    x.pass(1, NONE, 1);
    Due.is("40 is no more than 10 times 4", x.ofShip(0, 0), 1);
    Due.is("cells left", x.ofShip(0, 6), 1);
    Due.is("it did not wait", x.many(7), 0);
    Due.is("it makes no channel", x.ofCell(1, 2), 0);
    x.ice(2, 41);
    x.pass(0, NONE, 2);
    Due.is("41 is more", x.ofShip(0, BY_POWER), 2);
    Due.is("it waits where it is", x.ofShip(0, 0), 1);
    Due.is("its route stays", x.ofShip(0, 6), 1);
    x.ice(2, 81);
    x.pass(0, NONE, 1);
    Due.is("power is looked at ahead of what it bears", x.ofShip(0, BY_POWER), 3);
    x.ice(2, 40);
    x.pass(0, NONE, 2);
    Due.is("it went when the ice was less", x.ofShip(0, 0), 2);
    Due.is("then it waits by nothing", x.ofShip(0, BY_NOTHING), 1);
    Due.is("it pays nothing", x.ofShip(0, 8), 0);
  }

  private static void shipsBearByClass() {
    int[] bears = {10, 30, 50, 80, 90};
    for (int rank = 0; rank <= 4; rank++) {
      ChannelWinter x = new ChannelWinter();
      x.port(14);
      x.ship(0, rank, 9, 0);
      x.sail(0, 1);
      x.ice(1, bears[rank] + 1);
      x.pass(0, NONE, 1);
      Due.is("class " + rank + " waits", x.ofShip(0, rank == 4 ? BY_POWER : BY_BEARING), 1);
      Due.is("for one reason", x.many(7), 1);
      x.ice(1, bears[rank]);
      x.pass(0, NONE, 1);
      Due.is("class " + rank + " goes", x.ofShip(0, 0), 1);
    }
    ChannelWinter y = new ChannelWinter();
    y.port(14);
    y.land(2);
    y.ice(0, 20);
    y.ice(1, 19);
    y.ship(0, 1, 9, 0);
    y.sail(0, 1);
    y.pass(0, EAST, 1);
    Due.is("21 of ice and a press of 2 are 31", y.ofShip(0, BY_BEARING), 1);
    y.ice(0, 20);
    y.ice(1, 18);
    y.pass(0, EAST, 1);
    Due.is("20 of ice and a press of 2 are 30", y.ofShip(0, 0), 1);
  }

  private static void shipsUseChannels() {
    ChannelWinter x = new ChannelWinter();
    x.port(14);
    x.breaker(0, 100);
    x.ship(0, 1, 9, 0);
    x.ice(1, 123);
    x.steer(0, 1);
    x.sail(0, 1);
    x.pass(0, NONE, 1);
    Due.is("a quarter of 123 is 30, and breakers go first", x.ofShip(0, 0), 1);
    x.halt(0);
    x.ice(2, 124);
    x.steer(0, 2);
    x.sail(0, 2);
    x.pass(0, NONE, 1);
    Due.is("a quarter of 124 is 31", x.ofShip(0, BY_BEARING), 1);
  }

  private static void shipsDropRoutes() {
    int[] wrong = {0, 2, 6, 14};
    for (int cell : wrong) {
      ChannelWinter x = new ChannelWinter();
      x.port(14);
      x.ship(0, 1, 9, 0);
      x.sail(0, cell);
      x.sail(0, 1);
      x.pass(0, NONE, 1);
      Due.is("route with " + cell + " at first", x.ofShip(0, 6), 0);
      Due.is("it waits by nothing", x.ofShip(0, BY_NOTHING), 1);
      Due.is("it stays", x.ofShip(0, 0), 0);
    }
    ChannelWinter y = new ChannelWinter();
    y.port(14);
    y.ship(4, 1, 9, 0);
    y.ship(0, 1, 9, 0);
    y.land(1);
    y.sail(0, 5);
    y.sail(1, 1);
    y.pass(0, NONE, 1);
    Due.is("5 is no neighbour of 4", y.ofShip(0, 0), 4);
    Due.is("route to 5", y.ofShip(0, 6), 0);
    Due.is("nothing goes to land", y.ofShip(1, 0), 0);
    Due.is("route to land", y.ofShip(1, 6), 0);
    Due.is("it waits by nothing", y.ofShip(1, BY_NOTHING), 1);
  }

  private static void shipsAreLed() {
    ChannelWinter x = new ChannelWinter();
    x.port(14);
    x.breaker(0, 100);
    x.ship(0, 1, 3, 0);
    x.ice(1, 120);
    x.lead(0, 0);
    x.sail(0, 5);
    x.sail(0, 6);
    x.steer(0, 1);
    x.steer(0, 2);
    x.pass(0, NONE, 1);
    Due.is("it goes behind its breaker", x.ofShip(0, 0), 1);
    Due.is("its route is dropped", x.ofShip(0, 6), 0);
    Due.is("its dues are 4", x.ofShip(0, 8), 4);
    Due.is("it is led yet", x.ofShip(0, 4), 1);
    Due.is("it did not wait", x.many(7), 0);
    x.pass(0, NONE, 1);
    Due.is("it goes on", x.ofShip(0, 0), 2);
    Due.is("its dues are 8", x.ofShip(0, 8), 8);
    x.pass(0, NONE, 1);
    Due.is("then it waits for its breaker", x.ofShip(0, BY_BREAKER), 1);
    Due.is("and is led yet", x.ofShip(0, 4), 1);
    x.steer(0, 3);
    x.pass(0, NONE, 1);
    Due.is("and goes with it again", x.ofShip(0, 0), 3);
  }

  private static void shipsThatCanNotFollow() {
    ChannelWinter x = new ChannelWinter();
    x.port(14);
    x.breaker(0, 100);
    x.ship(0, 4, 3, 0);
    x.ship(0, 1, 4, 0);
    x.ice(1, 124);
    x.lead(0, 0);
    x.lead(0, 1);
    x.sail(0, 5);
    x.steer(0, 1);
    x.pass(0, NONE, 1);
    Due.is("31 is more than 10 times 3", x.ofShip(0, BY_POWER), 1);
    Due.is("31 is more than 30", x.ofShip(1, BY_BEARING), 1);
    Due.is("two waits in all", x.many(7), 2);
    Due.is("no dues", x.many(8), 0);
    for (int ship = 0; ship <= 1; ship++) {
      Due.is("it is free", x.ofShip(ship, 4), 0);
      Due.is("it has no breaker", x.ofShip(ship, 5), NONE);
      Due.is("it stays", x.ofShip(ship, 0), 0);
    }
    Due.is("one that could not follow keeps its route", x.ofShip(0, 6), 1);
    Due.is("the breaker leads none", x.ofBreaker(0, 3), 0);
    x.pass(0, NONE, 1);
    Due.is("then it goes by itself", x.ofShip(0, 0), 5);
    Due.is("the other one has no route", x.ofShip(1, BY_NOTHING), 1);
    Due.is("and does not wait for the breaker", x.ofShip(1, BY_BREAKER), 0);
  }

  private static void shipsAreTowed() {
    ChannelWinter x = new ChannelWinter();
    x.port(14);
    x.breaker(0, 100);
    x.ship(0, 2, 1, 0);
    x.ice(1, 150);
    x.ice(2, 150);
    x.tow(0, 0);
    x.sail(0, 5);
    x.steer(0, 1);
    x.steer(0, 2);
    x.pass(0, NONE, 1);
    Due.is("its power is not looked at", x.ofShip(0, 0), 1);
    Due.is("its route is dropped", x.ofShip(0, 6), 0);
    Due.is("its dues are 9", x.ofShip(0, 8), 9);
    Due.is("it is towed yet", x.ofShip(0, 4), 2);
    x.pass(0, NONE, 1);
    Due.is("its dues are 18", x.ofShip(0, 8), 18);
    ChannelWinter y = new ChannelWinter();
    y.port(14);
    y.breaker(0, 100);
    y.ship(0, 1, 9, 0);
    y.ice(1, 124);
    y.tow(0, 0);
    y.steer(0, 1);
    y.pass(0, NONE, 1);
    Due.is("31 is more than 30 in tow, too", y.ofShip(0, BY_BEARING), 1);
    Due.is("it is free", y.ofShip(0, 4), 0);
    Due.is("no dues", y.ofShip(0, 8), 0);
    Due.is("the breaker tows none", y.ofBreaker(0, 4), NONE);
  }

  private static void shipsWaitForBreakers() {
    ChannelWinter x = new ChannelWinter();
    x.port(14);
    x.breaker(0, 3);
    x.ship(0, 1, 9, 0);
    x.ship(0, 1, 9, 0);
    x.lead(0, 0);
    x.tow(0, 1);
    x.sail(0, 1);
    x.pass(0, NONE, 1);
    Due.is("a breaker without a route", x.ofShip(0, BY_BREAKER), 1);
    Due.is("its route stays", x.ofShip(0, 6), 1);
    Due.is("it is led yet", x.ofShip(0, 4), 1);
    Due.is("the towed one waits as well", x.ofShip(1, BY_BREAKER), 1);
    Due.is("it is towed yet", x.ofShip(1, 4), 2);
    x.ice(1, 30);
    x.steer(0, 1);
    x.pass(0, NONE, 1);
    Due.is("a breaker that is stuck", x.ofShip(0, BY_BREAKER), 2);
    x.ice(1, 0);
    x.pass(0, NONE, 1);
    Due.is("they go", x.ofShip(0, 0) + x.ofShip(1, 0), 2);
    Due.is("dues of both", x.many(8), 13);
  }

  private static void shipsArrive() {
    ChannelWinter x = new ChannelWinter();
    x.port(2);
    x.ship(1, 1, 9, 0);
    x.ship(2, 1, 9, 0);
    x.ship(2, 1, 9, 0);
    x.sail(0, 2);
    x.sail(0, 3);
    x.sail(1, 3);
    x.sail(1, 2);
    Due.is("two arrive", x.pass(0, NONE, 1), 2);
    Due.is("it has arrived", x.ofShip(0, 4), 3);
    Due.is("it has no route from then on", x.ofShip(0, 6), 0);
    Due.is("hour", x.ofShip(0, 9), 1);
    Due.is("one with a route out of the port goes", x.ofShip(1, 0), 3);
    Due.is("one without a route arrives", x.ofShip(2, 9), 1);
    Due.is("without a wait", x.many(7), 0);
    Due.is("the other one comes back", x.pass(0, NONE, 2), 1);
    Due.is("hour 2", x.ofShip(1, 9), 2);
    x.pass(9, EAST, 24);
    Due.is("ships that arrived do not wait", x.many(7), 0);
    Due.is("ships that arrived stay", x.ofShip(0, 0), 2);
  }

  private static void shipsArriveBehindBreakers() {
    ChannelWinter x = new ChannelWinter();
    x.port(1);
    x.breaker(0, 100);
    x.ship(0, 1, 9, 0);
    x.ship(0, 1, 9, 0);
    x.lead(0, 0);
    x.tow(0, 1);
    x.steer(0, 1);
    Due.is("both arrive", x.pass(0, NONE, 1), 2);
    Due.is("dues are paid", x.many(8), 13);
    for (int ship = 0; ship <= 1; ship++) {
      Due.is("it has arrived", x.ofShip(ship, 4), 3);
      Due.is("it has no breaker from then on", x.ofShip(ship, 5), NONE);
    }
    Due.is("the breaker leads none", x.ofBreaker(0, 3), 0);
    Due.is("the breaker tows none", x.ofBreaker(0, 4), NONE);
    x.ship(1, 1, 9, 0);
    x.lead(0, 2);
    Due.is("one whose breaker waits arrives", x.pass(0, NONE, 1), 1);
    Due.is("without a wait", x.many(7), 0);
  }

  private static void rulesKeepShipsOut() {
    ChannelWinter x = new ChannelWinter();
    x.port(1);
    x.rule(0, 2, 24);
    x.pass(0, NONE, 22);
    x.breaker(1, 100);
    x.ship(1, 1, 9, 0);
    Due.is("hour 23 is ahead of the rule", x.pass(0, NONE, 1), 1);
    x.ship(0, 1, 9, 0);
    x.ship(1, 1, 9, 0);
    x.ship(1, 2, 9, 0);
    x.sail(1, 1);
    x.lead(0, 2);
    Due.is("class 2 arrives in hour 24", x.pass(0, NONE, 1), 1);
    Due.is("that one", x.ofShip(3, 9), 24);
    Due.is("one that went there waits by the rule", x.ofShip(1, BY_RULE), 1);
    Due.is("it is there", x.ofShip(1, 0), 1);
    Due.is("one that is led waits by the rule", x.ofShip(2, BY_RULE), 1);
    Due.is("in place of its breaker", x.ofShip(2, BY_BREAKER), 0);
    Due.is("it is led yet", x.ofShip(2, 4), 1);
    x.pass(0, NONE, 1);
    Due.is("by the rule in place of nothing told", x.ofShip(1, BY_RULE), 2);
    Due.is("not by nothing told", x.ofShip(1, BY_NOTHING), 0);
    x.ice(2, 300);
    x.sail(1, 2);
    x.pass(0, NONE, 1);
    Due.is("by the rule in place of power", x.ofShip(1, BY_RULE), 3);
    Due.is("not by power", x.ofShip(1, BY_POWER), 0);
    x.exempt(0, 1);
    Due.is("an exempt one arrives", x.pass(0, NONE, 1), 1);
    Due.is("with its route dropped", x.ofShip(1, 6), 0);
    x.rule(0, 1, 24);
    Due.is("no arrival in 23 hours", x.pass(0, NONE, 23), 0);
    Due.is("the rule told last is in force", x.pass(0, NONE, 1), 1);
    Due.is("hour 51", x.ofShip(2, 9), 51);
  }

  private static void damage() {
    ChannelWinter x = new ChannelWinter();
    x.port(1);
    x.port(9);
    x.rule(0, 4, 24);
    x.pass(0, NONE, 24);
    x.ship(6, 1, 9, 1);
    x.ship(6, 1, 9, 1);
    x.ship(0, 2, 9, 0);
    x.ship(1, 4, 9, 0);
    x.land(2);
    x.land(7);
    x.ice(0, 59);
    x.ice(5, 59);
    x.pass(0, EAST, 1);
    Due.is("a press of 5 does no damage", x.many(10), 0);
    Due.is("ship 3 arrived", x.ofShip(3, 4), 3);
    x.ice(0, 60);
    x.ice(1, 0);
    x.ice(5, 60);
    x.sail(1, 11);
    x.sail(2, 1);
    x.pass(0, EAST, 1);
    Due.is("one that waits with a press of 6", x.ofShip(0, 7), 1);
    Due.is("one that goes from there", x.ofShip(1, 7), 0);
    Due.is("one that went there and waits by the rule", x.ofShip(2, 7), 1);
    Due.is("one that has arrived there", x.ofShip(3, 7), 0);
    x.exempt(0, 2);
    x.ice(0, 60);
    x.pass(0, EAST, 1);
    Due.is("one that arrives does not wait", x.ofShip(2, 7), 1);
    Due.is("all damage", x.many(10), 1 + 1);
  }
}
