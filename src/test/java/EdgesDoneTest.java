/** Promises 9 to 14 at their boundaries: each sentence of the document that names one, by itself. */
public final class EdgesDoneTest {
  private static final int NONE = Scene.NONE;
  private static final int LEAST_INT = Scene.LEAST_INT;
  private static final int MOST_INT = Scene.MOST_INT;

  private static final int FREE = 0;
  private static final int LED = 1;
  private static final int TOWED = 2;
  private static final int ARRIVED = 3;

  private static final Scene TWO_BREAKERS = Scene.of(x -> x.breaker(7, 99), x -> x.breaker(7, 99));
  private static final Scene TWO_SHIPS =
      Scene.of(x -> x.port(14), x -> x.ship(7, 1, 9, 0), x -> x.ship(7, 1, 9, 0));
  /** Two BREAKERS and five SHIPS, all in CELL 7. */
  private static final Scene CROWD = TWO_BREAKERS.with(x -> x.port(14)).times(5, x -> x.ship(7, 1, 9, 0));
  /** SHIP 0 has ARRIVED in the CELL of BREAKER 0, where SHIP 1 (of another PORT) is, too. */
  private static final Scene ONE_ARRIVED = Scene.of(x -> x.port(7), x -> x.port(14), x -> x.breaker(7, 99),
      x -> x.ship(7, 1, 9, 0), x -> x.ship(7, 1, 9, 1), x -> x.pass(0, NONE, 1));

  public static void main(String[] args) {
    steerBreaker();
    steerCell();
    steerAnyCell();
    steerNinth();
    steerBehindTheFirst();
    steerOrder();
    sailShip();
    sailCell();
    sailAnyCell();
    sailNinth();
    sailArrived();
    sailOrder();
    haltShip();
    haltCount();
    haltBound();
    haltArrived();
    leadNumbers();
    leadArrived();
    leadElsewhere();
    leadThird();
    leadTwice();
    leadFromAnother();
    leadClass();
    leadOrder();
    towNumbers();
    towArrived();
    towElsewhere();
    towClass();
    towSecond();
    towTwice();
    towFromAnother();
    towBesideLed();
    towOrder();
    fuelBreaker();
    fuelAmount();
    fuelAtMost();
    fuelInPort();
    fuelOrder();
    Due.end("EdgesDoneTest");
  }

  private static void steerBreaker() {
    Due.sentence("9: IndexOutOfBoundsException if there is no such BREAKER");
    TWO_BREAKERS.index(x -> x.steer(-1, 8), x -> x.steer(2, 8), x -> x.steer(LEAST_INT, 8), x -> x.steer(MOST_INT, 8));
    TWO_BREAKERS.due(1, x -> x.steer(0, 8)).due(1, x -> x.ofBreaker(0, 2)).due(0, x -> x.ofBreaker(1, 2));
    TWO_BREAKERS.due(1, x -> x.steer(1, 8)).due(0, x -> x.ofBreaker(0, 2)).due(1, x -> x.ofBreaker(1, 2));
    Scene.of(x -> x.breaker(7, 99)).index(x -> x.steer(1, 8)).due(1, x -> x.steer(0, 8));
  }

  private static void steerCell() {
    Due.sentence("9: IndexOutOfBoundsException if there is no such CELL");
    TWO_BREAKERS.index(x -> x.steer(0, -1), x -> x.steer(0, 15), x -> x.steer(0, LEAST_INT), x -> x.steer(0, MOST_INT));
    Scene.of(x -> x.breaker(1, 99)).due(1, x -> x.steer(0, 0)).calm(1).due(0, x -> x.ofBreaker(0, 0));
    Scene.of(x -> x.breaker(13, 99)).due(1, x -> x.steer(0, 14)).calm(1).due(14, x -> x.ofBreaker(0, 0));
  }

  private static void steerAnyCell() {
    Due.sentence("9: any CELL can be told: LAND, one far off, its own");
    TWO_BREAKERS.land(8).due(1, x -> x.steer(0, 8)).due(2, x -> x.steer(0, 0)).due(3, x -> x.steer(0, 7))
        .due(4, x -> x.steer(0, 7));
  }

  private static void steerNinth() {
    Due.sentence("9: IllegalStateException if it has 8");
    Scene route = TWO_BREAKERS;
    for (int told : Scene.numbers(1, 8)) {
      int cell = told % 2 == 1 ? 8 : 7;
      route = route.due(told, x -> x.steer(0, cell)).due(told, x -> x.ofBreaker(0, 2));
    }
    route.state(x -> x.steer(0, 8), x -> x.steer(0, 0), x -> x.steer(0, 14));
    route.due(1, x -> x.steer(1, 8));
    route.calm(8).due(0, x -> x.ofBreaker(0, 2)).due(99 - 24, x -> x.ofBreaker(0, 1));
  }

  private static void steerBehindTheFirst() {
    Due.sentence("9: a CELL that was taken off makes room for one");
    Scene seven = TWO_BREAKERS.steer(0, 8, 7, 8, 7, 8, 7, 8, 7).calm(1);
    seven.due(7, x -> x.ofBreaker(0, 2)).due(8, x -> x.steer(0, 6)).state(x -> x.steer(0, 7));
    seven.steer(0, 6).calm(8).due(6, x -> x.ofBreaker(0, 0)).due(0, x -> x.ofBreaker(0, 2));
  }

  private static void steerOrder() {
    Due.sentence("9: the exception that is named first");
    Scene full = TWO_BREAKERS.steer(0, 8, 7, 8, 7, 8, 7, 8, 7);
    full.index(x -> x.steer(0, 15), x -> x.steer(0, -1), x -> x.steer(2, 15), x -> x.steer(-1, -1));
  }

  private static void sailShip() {
    Due.sentence("10: IndexOutOfBoundsException if there is no such SHIP");
    TWO_SHIPS.index(x -> x.sail(-1, 8), x -> x.sail(2, 8), x -> x.sail(LEAST_INT, 8), x -> x.sail(MOST_INT, 8));
    TWO_SHIPS.due(1, x -> x.sail(0, 8)).due(1, x -> x.ofShip(0, 6)).due(0, x -> x.ofShip(1, 6));
    TWO_SHIPS.due(1, x -> x.sail(1, 8)).due(0, x -> x.ofShip(0, 6)).due(1, x -> x.ofShip(1, 6));
    CROWD.index(x -> x.sail(5, 8)).due(1, x -> x.sail(4, 8)).due(1, x -> x.ofShip(4, 6));
  }

  private static void sailCell() {
    Due.sentence("10: IndexOutOfBoundsException if there is no such CELL");
    TWO_SHIPS.index(x -> x.sail(0, -1), x -> x.sail(0, 15), x -> x.sail(0, LEAST_INT), x -> x.sail(0, MOST_INT));
    Scene port = Scene.of(x -> x.port(7));
    port.with(x -> x.ship(1, 1, 9, 0)).due(1, x -> x.sail(0, 0)).calm(1).due(0, x -> x.ofShip(0, 0));
    port.with(x -> x.ship(13, 1, 9, 0)).due(1, x -> x.sail(0, 14)).calm(1).due(14, x -> x.ofShip(0, 0));
  }

  private static void sailAnyCell() {
    Due.sentence("10: any CELL can be told: LAND, one far off, its own");
    TWO_SHIPS.land(8).due(1, x -> x.sail(0, 8)).due(2, x -> x.sail(0, 0)).due(3, x -> x.sail(0, 7))
        .due(4, x -> x.sail(0, 7));
  }

  private static void sailNinth() {
    Due.sentence("10: IllegalStateException if it has 8");
    Scene route = TWO_SHIPS;
    for (int told : Scene.numbers(1, 8)) {
      int cell = told % 2 == 1 ? 8 : 7;
      route = route.due(told, x -> x.sail(0, cell)).due(told, x -> x.ofShip(0, 6));
    }
    route.state(x -> x.sail(0, 8), x -> x.sail(0, 0), x -> x.sail(0, 14));
    route.due(1, x -> x.sail(1, 8));
    Scene seven = route.calm(1).due(7, x -> x.ofShip(0, 6));
    seven.due(8, x -> x.sail(0, 6)).state(x -> x.sail(0, 7));
    seven.sail(0, 6).calm(8).due(6, x -> x.ofShip(0, 0)).due(0, x -> x.many(7) - x.ofShip(1, 10));
  }

  private static void sailArrived() {
    Due.sentence("10: IllegalStateException if the SHIP has ARRIVED");
    ONE_ARRIVED.state(x -> x.sail(0, 8), x -> x.sail(0, 7)).due(1, x -> x.sail(1, 8));
    Scene ahead = Scene.of(x -> x.port(7), x -> x.ship(7, 1, 9, 0));
    ahead.due(1, x -> x.sail(0, 8));
  }

  private static void sailOrder() {
    Due.sentence("10: the exception that is named first");
    ONE_ARRIVED.index(x -> x.sail(0, 15), x -> x.sail(0, -1), x -> x.sail(2, 15), x -> x.sail(-1, 0));
    Scene full = TWO_SHIPS.sail(0, 8, 7, 8, 7, 8, 7, 8, 7);
    full.index(x -> x.sail(0, 15), x -> x.sail(0, -1), x -> x.sail(2, 8));
  }

  private static void haltShip() {
    Due.sentence("11: IndexOutOfBoundsException if there is no such SHIP");
    Scene routes = TWO_SHIPS.sail(0, 8).sail(1, 8, 9);
    routes.index(x -> x.halt(-1), x -> x.halt(2), x -> x.halt(LEAST_INT), x -> x.halt(MOST_INT));
    routes.due(1, x -> x.halt(0)).due(0, x -> x.ofShip(0, 6)).due(2, x -> x.ofShip(1, 6));
    routes.due(2, x -> x.halt(1)).due(1, x -> x.ofShip(0, 6)).due(0, x -> x.ofShip(1, 6));
    CROWD.sail(4, 8).index(x -> x.halt(5)).due(1, x -> x.halt(4));
  }

  private static void haltCount() {
    Due.sentence("11: Returns how many CELLS it had");
    Scene route = TWO_SHIPS;
    for (int count : Scene.numbers(0, 8)) {
      route.due(count, x -> x.halt(0)).due(0, x -> x.halt(0)).due(1, x -> x.sail(0, 8));
      route = route.sail(0, 8);
    }
  }

  private static void haltBound() {
    Due.sentence("11: Drops the ROUTE of a SHIP, which is FREE then");
    Scene bound = CROWD.with(x -> x.lead(0, 0), x -> x.tow(0, 1), x -> x.lead(1, 2)).sail(0, 8, 9);
    Scene led = bound.due(2, x -> x.halt(0)).due(FREE, x -> x.ofShip(0, 4)).due(NONE, x -> x.ofShip(0, 5));
    led.due(0, x -> x.ofBreaker(0, 3)).due(1, x -> x.ofBreaker(0, 4)).due(1, x -> x.ofBreaker(1, 3));
    Scene towed = bound.due(0, x -> x.halt(1)).due(FREE, x -> x.ofShip(1, 4)).due(NONE, x -> x.ofShip(1, 5));
    towed.due(1, x -> x.ofBreaker(0, 3)).due(NONE, x -> x.ofBreaker(0, 4)).due(2, x -> x.ofShip(0, 6));
    bound.due(0, x -> x.halt(3)).due(FREE, x -> x.ofShip(3, 4));
  }

  private static void haltArrived() {
    Due.sentence("11: one that has ARRIVED stays so");
    ONE_ARRIVED.due(0, x -> x.halt(0)).due(ARRIVED, x -> x.ofShip(0, 4)).due(1, x -> x.ofShip(0, 9))
        .due(1, x -> x.many(4)).state(x -> x.sail(0, 8));
  }

  private static void leadNumbers() {
    Due.sentence("12: IndexOutOfBoundsException if there is no such BREAKER, or SHIP");
    CROWD.index(x -> x.lead(-1, 0), x -> x.lead(2, 0), x -> x.lead(LEAST_INT, 0), x -> x.lead(MOST_INT, 0));
    CROWD.index(x -> x.lead(0, -1), x -> x.lead(0, 5), x -> x.lead(0, LEAST_INT), x -> x.lead(0, MOST_INT));
    for (int breaker : Scene.numbers(0, 1)) {
      for (int ship : new int[] {0, 4}) {
        CROWD.due(1, x -> x.lead(breaker, ship)).due(LED, x -> x.ofShip(ship, 4)).due(breaker, x -> x.ofShip(ship, 5));
      }
    }
    TWO_SHIPS.with(x -> x.breaker(7, 1)).index(x -> x.lead(1, 0), x -> x.lead(0, 2));
  }

  private static void leadArrived() {
    Due.sentence("12: IllegalStateException if it cannot be: the SHIP has ARRIVED");
    ONE_ARRIVED.state(x -> x.lead(0, 0)).due(1, x -> x.lead(0, 1));
    Scene ahead = Scene.of(x -> x.port(7), x -> x.breaker(7, 1), x -> x.ship(7, 1, 9, 0));
    ahead.due(1, x -> x.lead(0, 0));
  }

  private static void leadElsewhere() {
    Due.sentence("12: IllegalStateException if it cannot be: the SHIP is not in the CELL of the BREAKER");
    for (int cell : Scene.numbers(0, 13)) {
      Scene ship = Scene.of(x -> x.port(14), x -> x.breaker(7, 1), x -> x.ship(cell, 1, 9, 0));
      if (cell == 7) {
        ship.due(1, x -> x.lead(0, 0));
      } else {
        ship.state(x -> x.lead(0, 0));
      }
    }
    Scene gone = CROWD.steer(0, 8).calm(1);
    gone.state(x -> x.lead(0, 0)).due(1, x -> x.lead(1, 0));
    gone.sail(0, 8).calm(1).due(1, x -> x.lead(0, 0)).state(x -> x.lead(1, 0));
  }

  private static void leadThird() {
    Due.sentence("12: at most 2 are LED by one");
    Scene two = CROWD.due(1, x -> x.lead(0, 0)).due(2, x -> x.lead(0, 1)).due(2, x -> x.ofBreaker(0, 3));
    two.state(x -> x.lead(0, 2), x -> x.lead(0, 3), x -> x.lead(0, 4));
    two.due(1, x -> x.lead(1, 2)).due(2, x -> x.lead(1, 3)).state(x -> x.lead(1, 4), x -> x.lead(0, 4));
    two.with(x -> x.halt(0)).due(2, x -> x.lead(0, 2)).state(x -> x.lead(0, 0));
    two.with(x -> x.tow(0, 4)).state(x -> x.lead(0, 4), x -> x.lead(0, 2));
    two.with(x -> x.tow(1, 4)).state(x -> x.lead(0, 4)).due(1, x -> x.lead(1, 4));
  }

  private static void leadTwice() {
    Due.sentence("12: IllegalStateException if it is LED by it already");
    CROWD.with(x -> x.lead(0, 0)).state(x -> x.lead(0, 0)).due(2, x -> x.lead(0, 1));
    CROWD.with(x -> x.lead(0, 0), x -> x.lead(0, 1)).state(x -> x.lead(0, 0), x -> x.lead(0, 1));
    CROWD.with(x -> x.lead(1, 4)).state(x -> x.lead(1, 4)).due(1, x -> x.lead(0, 4));
  }

  private static void leadFromAnother() {
    Due.sentence("12: One that is LED or TOWED already is only so by the new one from then on");
    Scene led = CROWD.with(x -> x.lead(0, 0), x -> x.lead(0, 1)).due(1, x -> x.lead(1, 0));
    led.due(1, x -> x.ofBreaker(0, 3)).due(1, x -> x.ofBreaker(1, 3)).due(1, x -> x.ofShip(0, 5));
    led.due(2, x -> x.lead(0, 2)).due(2, x -> x.lead(1, 3));
    Scene towed = CROWD.with(x -> x.tow(0, 0)).due(1, x -> x.lead(1, 0));
    towed.due(NONE, x -> x.ofBreaker(0, 4)).due(NONE, x -> x.ofBreaker(1, 4)).due(LED, x -> x.ofShip(0, 4));
    Scene own = CROWD.with(x -> x.tow(0, 0), x -> x.lead(0, 1)).due(2, x -> x.lead(0, 0));
    own.due(NONE, x -> x.ofBreaker(0, 4)).due(LED, x -> x.ofShip(0, 4)).due(0, x -> x.ofShip(0, 5));
  }

  private static void leadClass() {
    Due.sentence("12: one of any CLASS can be LED");
    for (int rank : Scene.numbers(0, 4)) {
      Scene.of(x -> x.port(14), x -> x.breaker(7, 1), x -> x.ship(7, rank, 1, 0)).due(1, x -> x.lead(0, 0));
    }
  }

  private static void leadOrder() {
    Due.sentence("12: the exception that is named first");
    Scene two = CROWD.with(x -> x.lead(0, 0), x -> x.lead(0, 1));
    two.index(x -> x.lead(0, 5), x -> x.lead(0, -1), x -> x.lead(2, 0), x -> x.lead(-1, 0), x -> x.lead(2, 5));
    ONE_ARRIVED.index(x -> x.lead(1, 0), x -> x.lead(-1, 0));
  }

  private static void towNumbers() {
    Due.sentence("13: IndexOutOfBoundsException if there is no such BREAKER, or SHIP");
    CROWD.index(x -> x.tow(-1, 0), x -> x.tow(2, 0), x -> x.tow(LEAST_INT, 0), x -> x.tow(MOST_INT, 0));
    CROWD.index(x -> x.tow(0, -1), x -> x.tow(0, 5), x -> x.tow(0, LEAST_INT), x -> x.tow(0, MOST_INT));
    for (int breaker : Scene.numbers(0, 1)) {
      for (int ship : new int[] {0, 4}) {
        CROWD.due(30, x -> x.tow(breaker, ship)).due(ship, x -> x.ofBreaker(breaker, 4))
            .due(TOWED, x -> x.ofShip(ship, 4)).due(breaker, x -> x.ofShip(ship, 5));
      }
    }
    TWO_SHIPS.with(x -> x.breaker(7, 1)).index(x -> x.tow(1, 0), x -> x.tow(0, 2));
  }

  private static void towArrived() {
    Due.sentence("13: IllegalStateException if it cannot be: the SHIP has ARRIVED");
    ONE_ARRIVED.state(x -> x.tow(0, 0)).due(30, x -> x.tow(0, 1));
    Scene ahead = Scene.of(x -> x.port(7), x -> x.breaker(7, 1), x -> x.ship(7, 1, 9, 0));
    ahead.due(30, x -> x.tow(0, 0));
  }

  private static void towElsewhere() {
    Due.sentence("13: IllegalStateException if it cannot be: the SHIP is not in the CELL of the BREAKER");
    for (int cell : Scene.numbers(0, 13)) {
      Scene ship = Scene.of(x -> x.port(14), x -> x.breaker(7, 1), x -> x.ship(cell, 1, 9, 0));
      if (cell == 7) {
        ship.due(30, x -> x.tow(0, 0));
      } else {
        ship.state(x -> x.tow(0, 0));
      }
    }
    Scene gone = CROWD.steer(0, 8).calm(1);
    gone.state(x -> x.tow(0, 0)).due(30, x -> x.tow(1, 0));
    gone.sail(0, 8).calm(1).due(30, x -> x.tow(0, 0)).state(x -> x.tow(1, 0));
  }

  private static void towClass() {
    Due.sentence("13: TOWED, that has a CLASS of 1 or more; Returns what the SHIP BEARS");
    int[] bears = {10, 30, 50, 80, 120};
    for (int rank : Scene.numbers(0, 4)) {
      Scene ship = Scene.of(x -> x.port(14), x -> x.breaker(7, 1), x -> x.ship(7, rank, 1, 0));
      if (rank == 0) {
        ship.state(x -> x.tow(0, 0));
        ship.with(x -> x.lead(0, 0)).state(x -> x.tow(0, 0));
      } else {
        ship.due(bears[rank], x -> x.tow(0, 0));
      }
    }
  }

  private static void towSecond() {
    Due.sentence("13: IllegalStateException if the BREAKER TOWS one already");
    Scene one = CROWD.due(30, x -> x.tow(0, 0));
    one.state(x -> x.tow(0, 1), x -> x.tow(0, 4)).due(30, x -> x.tow(1, 1)).state(x -> x.tow(1, 2));
    one.with(x -> x.halt(0)).due(30, x -> x.tow(0, 1)).state(x -> x.tow(0, 0));
    CROWD.with(x -> x.tow(0, 4)).state(x -> x.tow(0, 0));
    one.with(x -> x.lead(0, 1)).state(x -> x.tow(0, 1));
    one.with(x -> x.lead(0, 0)).due(30, x -> x.tow(0, 1));
  }

  private static void towTwice() {
    Due.sentence("13: IllegalStateException if the BREAKER TOWS this one, too");
    CROWD.with(x -> x.tow(0, 0)).state(x -> x.tow(0, 0));
    CROWD.with(x -> x.tow(1, 4)).state(x -> x.tow(1, 4)).due(30, x -> x.tow(0, 4));
  }

  private static void towFromAnother() {
    Due.sentence("13: One that is LED or TOWED already is only so by the new one from then on");
    Scene towed = CROWD.with(x -> x.tow(0, 0)).due(30, x -> x.tow(1, 0));
    towed.due(NONE, x -> x.ofBreaker(0, 4)).due(0, x -> x.ofBreaker(1, 4)).due(30, x -> x.tow(0, 1));
    Scene led = CROWD.with(x -> x.lead(0, 0), x -> x.lead(0, 1)).due(30, x -> x.tow(1, 0));
    led.due(1, x -> x.ofBreaker(0, 3)).due(TOWED, x -> x.ofShip(0, 4)).due(1, x -> x.ofShip(0, 5));
    Scene own = CROWD.with(x -> x.lead(0, 0)).due(30, x -> x.tow(0, 0));
    own.due(0, x -> x.ofBreaker(0, 3)).due(0, x -> x.ofBreaker(0, 4)).due(1, x -> x.lead(0, 1));
    CROWD.with(x -> x.tow(0, 0), x -> x.tow(1, 1)).state(x -> x.tow(0, 1), x -> x.tow(1, 0));
  }

  private static void towBesideLed() {
    Due.sentence("13: at most 2 are LED by one, and 1 is TOWED");
    Scene three = CROWD.with(x -> x.lead(0, 0), x -> x.lead(0, 1)).due(30, x -> x.tow(0, 2));
    three.due(2, x -> x.ofBreaker(0, 3)).due(2, x -> x.ofBreaker(0, 4));
    three.state(x -> x.lead(0, 3), x -> x.tow(0, 3), x -> x.tow(0, 0), x -> x.lead(0, 2));
  }

  private static void towOrder() {
    Due.sentence("13: the exception that is named first");
    Scene one = CROWD.with(x -> x.tow(0, 0));
    one.index(x -> x.tow(0, 5), x -> x.tow(0, -1), x -> x.tow(2, 0), x -> x.tow(-1, 0), x -> x.tow(2, 5));
    ONE_ARRIVED.index(x -> x.tow(1, 0), x -> x.tow(-1, 0));
  }

  private static void fuelBreaker() {
    Due.sentence("14: IndexOutOfBoundsException if there is no such BREAKER");
    Scene two = Scene.of(x -> x.port(7), x -> x.breaker(7, 10), x -> x.breaker(7, 20));
    two.index(x -> x.fuel(-1, 1), x -> x.fuel(2, 1), x -> x.fuel(LEAST_INT, 1), x -> x.fuel(MOST_INT, 1));
    two.due(11, x -> x.fuel(0, 1)).due(11, x -> x.ofBreaker(0, 1)).due(20, x -> x.ofBreaker(1, 1));
    two.due(21, x -> x.fuel(1, 1)).due(10, x -> x.ofBreaker(0, 1)).due(21, x -> x.ofBreaker(1, 1));
    Scene.of(x -> x.port(7), x -> x.breaker(7, 10)).index(x -> x.fuel(1, 1));
  }

  private static void fuelAmount() {
    Due.sentence("14: IllegalArgumentException if fuel is not 1 to 500");
    Scene one = Scene.of(x -> x.port(7), x -> x.breaker(7, 10));
    one.argument(x -> x.fuel(0, 0), x -> x.fuel(0, 501), x -> x.fuel(0, -1), x -> x.fuel(0, LEAST_INT),
        x -> x.fuel(0, MOST_INT));
    for (int fuel : new int[] {1, 2, 499, 500}) {
      one.due(10 + fuel, x -> x.fuel(0, fuel)).due(10 + fuel, x -> x.ofBreaker(0, 1));
    }
  }

  private static void fuelAtMost() {
    Due.sentence("14: 999 at most; Returns how much it has then");
    int[] had = {498, 499, 500, 998, 999};
    for (int ahead : had) {
      Scene one = Scene.of(x -> x.port(7), x -> x.breaker(7, ahead));
      one.due(Math.min(999, ahead + 500), x -> x.fuel(0, 500)).due(Math.min(999, ahead + 500), x -> x.ofBreaker(0, 1));
      one.due(Math.min(999, ahead + 1), x -> x.fuel(0, 1)).due(Math.min(999, ahead + 1), x -> x.ofBreaker(0, 1));
    }
    Scene.of(x -> x.port(7), x -> x.breaker(7, 0)).due(500, x -> x.fuel(0, 500)).due(999, x -> x.fuel(0, 499))
        .due(999, x -> x.fuel(0, 1));
  }

  private static void fuelInPort() {
    Due.sentence("14: IllegalStateException if it is in no such CELL");
    Scene ports = Scene.of(x -> x.port(0), x -> x.port(7), x -> x.port(14));
    for (int cell : Scene.numbers(0, 14)) {
      Scene one = ports.with(x -> x.breaker(cell, 10));
      if (cell % 7 == 0) {
        one.due(11, x -> x.fuel(0, 1));
      } else {
        one.state(x -> x.fuel(0, 1));
      }
    }
    Scene.of(x -> x.breaker(7, 10)).state(x -> x.fuel(0, 1), x -> x.fuel(0, 500));
    Scene gone = ports.with(x -> x.breaker(7, 10)).steer(0, 8, 7).calm(1);
    gone.state(x -> x.fuel(0, 1)).calm(1).due(5, x -> x.fuel(0, 1));
  }

  private static void fuelOrder() {
    Due.sentence("14: the exception that is named first");
    Scene away = Scene.of(x -> x.port(7), x -> x.breaker(8, 10));
    away.index(x -> x.fuel(1, 0), x -> x.fuel(-1, 501), x -> x.fuel(1, 501));
    away.argument(x -> x.fuel(0, 0), x -> x.fuel(0, 501)).state(x -> x.fuel(0, 1), x -> x.fuel(0, 500));
  }
}
