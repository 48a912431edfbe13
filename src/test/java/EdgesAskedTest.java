/** Promises 16 to 21 at their boundaries: each sentence of the document that names one, by itself. */
public final class EdgesAskedTest {
  private static final int NONE = Scene.NONE;
  private static final int EAST = Scene.EAST;
  private static final int LEAST_INT = Scene.LEAST_INT;
  private static final int MOST_INT = Scene.MOST_INT;

  private static final Scene EMPTY = Scene.of();
  private static final Scene PORT_FAR_OFF = Scene.of(x -> x.port(14));
  private static final Scene CROWD = PORT_FAR_OFF.times(2, x -> x.breaker(7, 99)).times(5, x -> x.ship(7, 1, 9, 0));

  public static void main(String[] args) {
    ofCellCell();
    ofCellWhat();
    ofCellOrder();
    ofCellShips();
    ofCellOfLand();
    ofBreakerBreaker();
    ofBreakerWhat();
    ofBreakerOrder();
    ofBreakerWithoutShips();
    ofBreakerFilled();
    ofShipShip();
    ofShipWhat();
    ofShipOrder();
    ofShipAtFirst();
    ofShipWaitsApart();
    inForcePort();
    inForceHour();
    inForceOrder();
    manyWhat();
    manyChannels();
    manyOfAll();
    meanOfAll();
    meanOfLand();
    meanNotRounded();
    Due.end("EdgesAskedTest");
  }

  private static void ofCellCell() {
    Due.sentence("16: IndexOutOfBoundsException if cell is not 0 to 14");
    for (int what : Scene.numbers(0, 5)) {
      EMPTY.index(x -> x.ofCell(-1, what), x -> x.ofCell(15, what), x -> x.ofCell(LEAST_INT, what),
          x -> x.ofCell(MOST_INT, what));
    }
    EMPTY.with(x -> x.ice(0, 5)).due(5, x -> x.ofCell(0, 0)).due(0, x -> x.ofCell(1, 0));
    EMPTY.with(x -> x.ice(14, 5)).due(5, x -> x.ofCell(14, 0)).due(0, x -> x.ofCell(13, 0));
  }

  private static void ofCellWhat() {
    Due.sentence("16: IllegalArgumentException if what is not 0 to 5");
    EMPTY.argument(x -> x.ofCell(7, -1), x -> x.ofCell(7, 6), x -> x.ofCell(7, LEAST_INT), x -> x.ofCell(7, MOST_INT));
    Scene ice = PORT_FAR_OFF.with(x -> x.ice(7, 3), x -> x.ship(7, 0, 1, 0));
    ice.due(3, x -> x.ofCell(7, 0)).due(1, x -> x.ofCell(7, 5));
    ice.argument(x -> x.ofCell(7, -1), x -> x.ofCell(7, 6));
  }

  private static void ofCellOrder() {
    Due.sentence("16: the exception that is named first");
    EMPTY.index(x -> x.ofCell(-1, -1), x -> x.ofCell(15, 6), x -> x.ofCell(15, -1), x -> x.ofCell(-1, 6));
  }

  private static void ofCellShips() {
    Due.sentence("16: SHIPS there that have not ARRIVED");
    Scene ships = Scene.of(x -> x.port(7), x -> x.port(14));
    for (int count : Scene.numbers(0, 5)) {
      Scene there = ships.times(count, x -> x.ship(7, 0, 1, 0)).times(5 - count, x -> x.ship(7, 0, 1, 1));
      there.due(5, x -> x.ofCell(7, 5)).due(0, x -> x.ofCell(6, 5)).due(0, x -> x.ofCell(8, 5));
      there.calm(1).due(5 - count, x -> x.ofCell(7, 5)).due(0, x -> x.ofCell(14, 5));
    }
    Scene gone = PORT_FAR_OFF.with(x -> x.ship(0, 0, 1, 0), x -> x.ship(0, 0, 1, 0)).sail(0, 1).calm(1);
    gone.due(1, x -> x.ofCell(0, 5)).due(1, x -> x.ofCell(1, 5));
    PORT_FAR_OFF.with(x -> x.breaker(0, 1)).due(0, x -> x.ofCell(0, 5)).due(0, x -> x.ofCell(14, 5));
  }

  private static void ofCellOfLand() {
    Due.sentence("16: 3 1 if it is LAND, otherwise 0; 4 what it is WORTH");
    for (int land : Scene.numbers(0, 14)) {
      Scene sea = EMPTY.with(x -> x.ice(land, 9)).land(land);
      for (int cell : Scene.numbers(0, 14)) {
        sea.due(cell == land ? 1 : 0, x -> x.ofCell(cell, 3));
      }
      for (int what : new int[] {0, 1, 2, 4, 5}) {
        sea.with(x -> x.pass(0, EAST, 1)).due(0, x -> x.ofCell(land, what));
      }
    }
  }

  private static void ofBreakerBreaker() {
    Due.sentence("17: IndexOutOfBoundsException if there is no such BREAKER");
    Scene one = EMPTY.with(x -> x.breaker(7, 9));
    for (int what : Scene.numbers(0, 5)) {
      EMPTY.index(x -> x.ofBreaker(0, what), x -> x.ofBreaker(-1, what));
      one.index(x -> x.ofBreaker(1, what), x -> x.ofBreaker(-1, what));
      CROWD.index(x -> x.ofBreaker(2, what), x -> x.ofBreaker(LEAST_INT, what), x -> x.ofBreaker(MOST_INT, what));
    }
    one.with(x -> x.breaker(8, 5)).due(9, x -> x.ofBreaker(0, 1)).due(5, x -> x.ofBreaker(1, 1));
  }

  private static void ofBreakerWhat() {
    Due.sentence("17: IllegalArgumentException if what is not 0 to 5");
    CROWD.argument(x -> x.ofBreaker(0, -1), x -> x.ofBreaker(0, 6), x -> x.ofBreaker(1, -1), x -> x.ofBreaker(1, 6),
        x -> x.ofBreaker(0, LEAST_INT), x -> x.ofBreaker(0, MOST_INT));
    Scene stuck = EMPTY.with(x -> x.breaker(7, 2)).steer(0, 8).calm(3);
    stuck.due(7, x -> x.ofBreaker(0, 0)).due(3, x -> x.ofBreaker(0, 5));
  }

  private static void ofBreakerOrder() {
    Due.sentence("17: the exception that is named first");
    CROWD.index(x -> x.ofBreaker(2, 6), x -> x.ofBreaker(-1, -1), x -> x.ofBreaker(2, -1));
    EMPTY.index(x -> x.ofBreaker(0, 6), x -> x.ofBreaker(0, -1));
  }

  private static void ofBreakerWithoutShips() {
    Due.sentence("17: at first: its CELL, its FUEL, no ROUTE, LEADS 0, TOWS NONE, STUCK 0");
    int[] told = {7, 99, 0, 0, NONE, 0};
    for (int breaker : Scene.numbers(0, 1)) {
      for (int what : Scene.numbers(0, 5)) {
        CROWD.due(told[what], x -> x.ofBreaker(breaker, what));
      }
    }
  }

  private static void ofBreakerFilled() {
    Due.sentence("17: CELLS in its ROUTE (8), SHIPS that it LEADS (2), the SHIP that it TOWS (0 to 4)");
    CROWD.steer(0, 8, 7, 8, 7, 8, 7, 8, 7).due(8, x -> x.ofBreaker(0, 2)).due(0, x -> x.ofBreaker(1, 2));
    CROWD.with(x -> x.lead(1, 0)).due(1, x -> x.ofBreaker(1, 3)).due(0, x -> x.ofBreaker(0, 3));
    CROWD.with(x -> x.lead(1, 0), x -> x.lead(1, 4)).due(2, x -> x.ofBreaker(1, 3)).due(NONE, x -> x.ofBreaker(1, 4));
    for (int ship : Scene.numbers(0, 4)) {
      CROWD.with(x -> x.tow(1, ship)).due(ship, x -> x.ofBreaker(1, 4)).due(NONE, x -> x.ofBreaker(0, 4))
          .due(0, x -> x.ofBreaker(1, 3));
    }
  }

  private static void ofShipShip() {
    Due.sentence("18: IndexOutOfBoundsException if there is no such SHIP");
    Scene one = PORT_FAR_OFF.with(x -> x.ship(7, 1, 9, 0));
    for (int what : Scene.numbers(0, 14)) {
      EMPTY.index(x -> x.ofShip(0, what));
      PORT_FAR_OFF.index(x -> x.ofShip(0, what));
      one.index(x -> x.ofShip(1, what), x -> x.ofShip(-1, what));
      CROWD.index(x -> x.ofShip(5, what), x -> x.ofShip(LEAST_INT, what), x -> x.ofShip(MOST_INT, what));
    }
    one.due(7, x -> x.ofShip(0, 0));
    CROWD.due(7, x -> x.ofShip(4, 0));
  }

  private static void ofShipWhat() {
    Due.sentence("18: IllegalArgumentException if what is not 0 to 14");
    CROWD.argument(x -> x.ofShip(0, -1), x -> x.ofShip(0, 15), x -> x.ofShip(4, -1), x -> x.ofShip(4, 15),
        x -> x.ofShip(0, LEAST_INT), x -> x.ofShip(0, MOST_INT));
    Scene led = CROWD.with(x -> x.lead(0, 3)).calm(2);
    led.due(7, x -> x.ofShip(3, 0)).due(2, x -> x.ofShip(3, 14)).due(0, x -> x.ofShip(3, 13));
  }

  private static void ofShipOrder() {
    Due.sentence("18: the exception that is named first");
    CROWD.index(x -> x.ofShip(5, 15), x -> x.ofShip(-1, -1), x -> x.ofShip(5, -1));
    EMPTY.index(x -> x.ofShip(0, 15), x -> x.ofShip(0, -1));
  }

  private static void ofShipAtFirst() {
    Due.sentence("18: at first: FREE, its BREAKER NONE, no ROUTE, DAMAGE and DUES 0, its HOUR NONE, no WAITS");
    int[] told = {7, 3, 6, 1, 0, NONE, 0, 0, 0, NONE, 0, 0, 0, 0, 0};
    Scene ship = PORT_FAR_OFF.with(x -> x.port(0), x -> x.ship(7, 3, 6, 1));
    for (int what : Scene.numbers(0, 14)) {
      ship.due(told[what], x -> x.ofShip(0, what));
    }
  }

  private static void ofShipWaitsApart() {
    Due.sentence("18: 10 to 14 WAITS by the REASONS 0 to 4");
    Scene five = Scene.of(x -> x.port(14), x -> x.port(7), x -> x.rule(1, 4, 24)).calm(24).with(x -> x.breaker(0, 0),
        x -> x.ship(0, 1, 9, 0), x -> x.ship(0, 1, 3, 0), x -> x.ship(0, 0, 9, 0), x -> x.ship(7, 1, 9, 1));
    five = five.with(x -> x.ship(0, 1, 9, 0), x -> x.ice(1, 31), x -> x.lead(0, 4)).sail(1, 1).sail(2, 1).calm(3);
    for (int ship : Scene.numbers(0, 4)) {
      for (int reason : Scene.numbers(0, 4)) {
        five.due(ship == reason ? 3 : 0, x -> x.ofShip(ship, 10 + reason));
      }
    }
    five.due(15, x -> x.many(7));
  }

  private static void inForcePort() {
    Due.sentence("19: IndexOutOfBoundsException if there is no such PORT");
    EMPTY.index(x -> x.inForce(0, 0), x -> x.inForce(-1, 0));
    PORT_FAR_OFF.index(x -> x.inForce(1, 0), x -> x.inForce(-1, 0));
    Scene three = Scene.of(x -> x.port(0), x -> x.port(7), x -> x.port(14));
    three.index(x -> x.inForce(3, 0), x -> x.inForce(LEAST_INT, 0), x -> x.inForce(MOST_INT, 0));
    Scene told = three.with(x -> x.rule(0, 1, 24), x -> x.rule(1, 2, 24), x -> x.rule(2, 3, 24));
    told.due(1, x -> x.inForce(0, 24)).due(2, x -> x.inForce(1, 24)).due(3, x -> x.inForce(2, 24));
  }

  private static void inForceHour() {
    Due.sentence("19: IllegalArgumentException if hour is below 0");
    PORT_FAR_OFF.argument(x -> x.inForce(0, -1), x -> x.inForce(0, LEAST_INT));
    PORT_FAR_OFF.calm(24).argument(x -> x.inForce(0, -1));
    for (int hour : new int[] {0, 1, 999, MOST_INT}) {
      PORT_FAR_OFF.due(0, x -> x.inForce(0, hour));
    }
  }

  private static void inForceOrder() {
    Due.sentence("19: the exception that is named first");
    EMPTY.index(x -> x.inForce(0, -1));
    PORT_FAR_OFF.index(x -> x.inForce(1, -1), x -> x.inForce(-1, LEAST_INT));
  }

  private static void manyWhat() {
    Due.sentence("20: IllegalArgumentException if what is not 0 to 10");
    EMPTY.argument(x -> x.many(-1), x -> x.many(11), x -> x.many(LEAST_INT), x -> x.many(MOST_INT));
    CROWD.argument(x -> x.many(-1), x -> x.many(11));
    Scene press = PORT_FAR_OFF.land(2).with(x -> x.ice(0, 60), x -> x.ship(1, 0, 1, 0), x -> x.pass(0, EAST, 1));
    press.due(1, x -> x.many(0)).due(1, x -> x.many(10));
  }

  private static void manyChannels() {
    Due.sentence("20: CELLS with a CHANNEL");
    Scene ends = EMPTY.with(x -> x.breaker(1, 99), x -> x.breaker(13, 99)).steer(0, 0).steer(1, 14).calm(1);
    ends.due(2, x -> x.many(2)).calm(11).due(2, x -> x.many(2)).due(1, x -> x.ofCell(0, 2));
    ends.calm(12).due(0, x -> x.many(2));
  }

  private static void manyOfAll() {
    Due.sentence("20: of all CELLS, all SHIPS: the first and the last count");
    for (int cell : Scene.numbers(0, 14)) {
      EMPTY.with(x -> x.ice(cell, 300)).due(300, x -> x.many(1));
    }
    for (int count : Scene.numbers(0, 5)) {
      Scene ships = PORT_FAR_OFF.times(count, x -> x.ship(14, 0, 1, 0));
      ships.due(count, x -> x.many(3)).due(0, x -> x.many(4)).calm(1).due(count, x -> x.many(4))
          .due(count, x -> x.many(3));
      Scene waits = PORT_FAR_OFF.times(count, x -> x.ship(0, 0, 1, 0)).calm(2);
      waits.due(2 * count, x -> x.many(7)).due(0, x -> x.many(4));
    }
    for (int ship : Scene.numbers(0, 4)) {
      CROWD.with(x -> x.lead(0, ship)).steer(0, 8).calm(1).due(4, x -> x.many(8)).due(4, x -> x.many(7));
      Scene one = PORT_FAR_OFF.land(2).times(ship, x -> x.ship(12, 0, 1, 0)).with(x -> x.ship(1, 0, 1, 0));
      one = one.times(4 - ship, x -> x.ship(12, 0, 1, 0)).with(x -> x.ice(0, 60), x -> x.pass(0, EAST, 1));
      one.due(1, x -> x.many(10)).due(5, x -> x.many(7)).due(1, x -> x.ofShip(ship, 7));
    }
    EMPTY.due(0, x -> x.many(5)).with(x -> x.breaker(0, 0)).due(1, x -> x.many(5)).with(x -> x.breaker(0, 0))
        .due(2, x -> x.many(5));
    EMPTY.due(0, x -> x.many(6)).with(x -> x.port(0)).due(1, x -> x.many(6)).with(x -> x.port(1), x -> x.port(2))
        .due(3, x -> x.many(6));
  }

  private static void mean(Scene scene, double due) {
    scene.due(Double.doubleToLongBits(due), x -> Double.doubleToLongBits(x.meanIce()));
  }

  private static void meanOfAll() {
    Due.sentence("21: the mean ICE of CELLS; 0 of a sea without ICE");
    mean(EMPTY, 0.0);
    mean(EMPTY.with(x -> x.pass(9, NONE, 24), x -> x.pass(9, NONE, 24)), 300.0);
    for (int cell : Scene.numbers(0, 14)) {
      mean(EMPTY.with(x -> x.ice(cell, 300)), 300.0 / 15);
    }
  }

  private static void meanOfLand() {
    Due.sentence("21: CELLS that are no LAND; 0 without any");
    Scene sea = EMPTY.with(x -> x.ice(14, 7));
    for (int land : Scene.numbers(0, 13)) {
      sea = sea.land(land);
      mean(sea, 7.0 / (14 - land));
    }
    mean(sea.land(14), 0.0);
    mean(sea.land(14).with(x -> x.pass(9, EAST, 24)), 0.0);
    mean(EMPTY.land(0, 1, 2, 3, 4, 5, 6, 7, 8, 9, 10, 11, 12, 13), 0.0);
  }

  private static void meanNotRounded() {
    Due.sentence("21: not rounded");
    mean(EMPTY.with(x -> x.ice(7, 1)), 1.0 / 15);
    mean(EMPTY.with(x -> x.ice(7, 14)), 14.0 / 15);
    mean(EMPTY.with(x -> x.ice(7, 15)), 1.0);
    mean(EMPTY.with(x -> x.ice(7, 16)), 16.0 / 15);
    mean(EMPTY.land(0).with(x -> x.ice(7, 1)), 1.0 / 14);
  }
}
