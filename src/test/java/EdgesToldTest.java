/** Promises 1 to 8 at their boundaries: each sentence of the document that names one, by itself. */
public final class EdgesToldTest {
  private static final int NONE = Scene.NONE;
  private static final int EAST = Scene.EAST;
  private static final int LEAST_INT = Scene.LEAST_INT;
  private static final int MOST_INT = Scene.MOST_INT;

  private static final Scene EMPTY = Scene.of();
  private static final Scene ONE_PORT = Scene.of(x -> x.port(14));
  private static final Scene TWO_PORTS = Scene.of(x -> x.port(14), x -> x.port(10));

  public static void main(String[] args) {
    newSea();
    newSeaHasNothingToCall();
    objectsAreApart();
    iceCell();
    iceAmount();
    iceOfLand();
    iceOrder();
    iceBefore();
    landCell();
    landTwice();
    landUnderShip();
    landUnderBreaker();
    landUnderPort();
    landOrder();
    landBefore();
    landForGood();
    landEverywhere();
    portCell();
    portOnLand();
    portTwice();
    portFourth();
    portOrder();
    rulePort();
    ruleLeast();
    ruleLater();
    ruleEleventh();
    ruleOrder();
    ruleHour();
    exemptPort();
    exemptShip();
    exemptBefore();
    breakerCell();
    breakerFuel();
    breakerOnLand();
    breakerThird();
    breakerOrder();
    shipCell();
    shipPort();
    shipRank();
    shipPower();
    shipOnLand();
    shipSixth();
    shipOrder();
    Due.end("EdgesToldTest");
  }

  private static void newSea() {
    Due.sentence("1: Creates a sea without ICE");
    for (int what : Scene.numbers(0, 10)) {
      EMPTY.due(0, x -> x.many(what));
    }
    for (int cell : Scene.numbers(0, 14)) {
      for (int what : Scene.numbers(0, 5)) {
        EMPTY.due(0, x -> x.ofCell(cell, what));
      }
    }
    EMPTY.due(Double.doubleToLongBits(0.0), x -> Double.doubleToLongBits(x.meanIce()));
    EMPTY.due(0, x -> x.pass(0, NONE, 24)).due(24, x -> x.many(0)).due(0, x -> x.many(1));
  }

  private static void newSeaHasNothingToCall() {
    Due.sentence("no PORT, no BREAKER, no SHIP");
    for (int none : new int[] {0, -1, 1}) {
      EMPTY.index(x -> x.rule(none, 0, 24), x -> Scene.bit(x.exempt(none, none)), x -> x.ship(0, 0, 1, none),
          x -> x.inForce(none, 0));
      EMPTY.index(x -> x.steer(none, 0), x -> x.fuel(none, 1), x -> x.ofBreaker(none, 0), x -> x.helpNext(none));
      EMPTY.index(x -> x.sail(none, 0), x -> x.halt(none), x -> x.ofShip(none, 0), x -> x.way(none, 0),
          x -> x.toBreak(none), x -> x.arriveIn(none, 1, 0, NONE));
      EMPTY.index(x -> x.lead(none, none), x -> x.tow(none, none));
    }
    Scene portAlone = ONE_PORT;
    portAlone.index(x -> Scene.bit(x.exempt(0, 0)));
    Scene breakerAlone = ONE_PORT.with(x -> x.breaker(0, 0));
    breakerAlone.index(x -> x.lead(0, 0), x -> x.tow(0, 0));
    Scene shipAlone = ONE_PORT.with(x -> x.ship(0, 1, 1, 0));
    shipAlone.index(x -> x.lead(0, 0), x -> x.tow(0, 0));
  }

  private static void objectsAreApart() {
    Due.sentence("1: a sea of its own");
    ChannelWinter told = new ChannelWinter();
    ChannelWinter other = new ChannelWinter();
    long before = other.digest();
    told.port(0);
    told.breaker(1, 9);
    told.ship(2, 1, 1, 0);
    told.ice(3, 300);
    told.land(4);
    told.pass(9, EAST, 24);
    Due.isHere(other.digest(), before);
    Due.isHere(new ChannelWinter().digest(), before);
  }

  private static void iceCell() {
    Due.sentence("2: IndexOutOfBoundsException if cell is not 0 to 14");
    EMPTY.index(x -> x.ice(-1, 1), x -> x.ice(15, 1), x -> x.ice(LEAST_INT, 1), x -> x.ice(MOST_INT, 1));
    EMPTY.due(0, x -> x.ice(0, 1)).due(1, x -> x.ofCell(0, 0));
    EMPTY.due(0, x -> x.ice(1, 1)).due(1, x -> x.ofCell(1, 0));
    EMPTY.due(0, x -> x.ice(13, 1)).due(1, x -> x.ofCell(13, 0));
    EMPTY.due(0, x -> x.ice(14, 1)).due(1, x -> x.ofCell(14, 0));
    for (int cell : Scene.numbers(0, 14)) {
      Scene told = EMPTY.with(x -> x.ice(cell, 7));
      for (int other : Scene.numbers(0, 14)) {
        told.due(other == cell ? 7 : 0, x -> x.ofCell(other, 0));
      }
    }
  }

  private static void iceAmount() {
    Due.sentence("2: IllegalArgumentException if ice is not 0 to 300");
    Scene told = EMPTY.with(x -> x.ice(7, 5));
    told.argument(x -> x.ice(7, -1), x -> x.ice(7, 301), x -> x.ice(7, LEAST_INT), x -> x.ice(7, MOST_INT));
    for (int ice : new int[] {0, 1, 299, 300}) {
      told.due(5, x -> x.ice(7, ice)).due(ice, x -> x.ofCell(7, 0));
    }
  }

  private static void iceOfLand() {
    Due.sentence("2: IllegalStateException if it is LAND");
    EMPTY.land(7).state(x -> x.ice(7, 1), x -> x.ice(7, 0), x -> x.ice(7, 300));
    for (int beside : new int[] {6, 8, 2, 12}) {
      EMPTY.land(7).due(0, x -> x.ice(beside, 1));
    }
    EMPTY.land(0).state(x -> x.ice(0, 1)).due(0, x -> x.ice(1, 1));
    EMPTY.land(14).state(x -> x.ice(14, 1)).due(0, x -> x.ice(13, 1));
  }

  private static void iceOrder() {
    Due.sentence("2: the exception that is named first");
    EMPTY.index(x -> x.ice(-1, -1), x -> x.ice(15, 301), x -> x.ice(15, -1));
    EMPTY.land(7).argument(x -> x.ice(7, -1), x -> x.ice(7, 301));
  }

  private static void iceBefore() {
    Due.sentence("2: Returns the ICE before");
    EMPTY.due(0, x -> x.ice(7, 300)).due(300, x -> x.ice(7, 0)).due(0, x -> x.ice(7, 1)).due(1, x -> x.ice(7, 1));
    Scene drifted = EMPTY.with(x -> x.ice(3, 300), x -> x.ice(4, 300), x -> x.pass(0, EAST, 1));
    drifted.due(330, x -> x.ice(4, 299)).due(30, x -> x.ofCell(4, 1));
    Scene channel = EMPTY.with(x -> x.breaker(0, 9)).steer(0, 1).calm(1);
    channel.due(0, x -> x.ice(1, 40)).due(12, x -> x.ofCell(1, 2)).due(10, x -> x.ofCell(1, 4));
  }

  private static void landCell() {
    Due.sentence("3: IndexOutOfBoundsException if cell is not 0 to 14");
    EMPTY.index(x -> x.land(-1), x -> x.land(15), x -> x.land(LEAST_INT), x -> x.land(MOST_INT));
    for (int cell : new int[] {0, 1, 13, 14}) {
      EMPTY.due(0, x -> x.land(cell)).due(1, x -> x.ofCell(cell, 3)).due(0, x -> x.ofCell(7, 3));
    }
  }

  private static void landTwice() {
    Due.sentence("3: IllegalStateException if it is");
    EMPTY.land(7).state(x -> x.land(7));
    EMPTY.land(7).due(0, x -> x.land(6)).due(0, x -> x.land(8)).state(x -> x.land(6));
  }

  private static void landUnderShip() {
    Due.sentence("3: IllegalStateException if a SHIP that has not ARRIVED is there");
    Scene first = ONE_PORT.with(x -> x.ship(7, 1, 9, 0));
    first.state(x -> x.land(7));
    first.due(0, x -> x.land(6)).due(0, x -> x.land(8));
    first.sail(0, 8).calm(1).state(x -> x.land(8)).due(0, x -> x.land(7));
    Scene five = first.times(3, x -> x.ship(6, 1, 9, 0)).with(x -> x.ship(8, 1, 9, 0));
    five.state(x -> x.land(7), x -> x.land(6), x -> x.land(8)).due(0, x -> x.land(9));
    Scene bound = first.with(x -> x.breaker(7, 9), x -> x.tow(0, 0)).steer(0, 8).calm(1);
    bound.state(x -> x.land(8)).due(0, x -> x.land(7));
  }

  private static void landUnderBreaker() {
    Due.sentence("3: IllegalStateException if a BREAKER is there");
    Scene two = EMPTY.with(x -> x.breaker(7, 9), x -> x.breaker(0, 9));
    two.state(x -> x.land(7), x -> x.land(0)).due(0, x -> x.land(1));
    two.steer(0, 8).calm(1).state(x -> x.land(8)).due(0, x -> x.land(7));
  }

  private static void landUnderPort() {
    Due.sentence("3: IllegalStateException if a PORT is there");
    Scene three = EMPTY.with(x -> x.port(0), x -> x.port(7), x -> x.port(14));
    three.state(x -> x.land(0), x -> x.land(7), x -> x.land(14));
    three.due(0, x -> x.land(1)).due(0, x -> x.land(6)).due(0, x -> x.land(13));
    Scene arrived = three.with(x -> x.ship(7, 1, 1, 1)).calm(1);
    arrived.due(3, x -> x.ofShip(0, 4)).state(x -> x.land(7));
  }

  private static void landOrder() {
    Due.sentence("3: the exception that is named first");
    EMPTY.land(14).index(x -> x.land(15), x -> x.land(-1)).state(x -> x.land(14));
  }

  private static void landBefore() {
    Due.sentence("3: Returns the ICE before; its ICE, PRESS and CHANNEL are 0");
    for (int ice : new int[] {0, 1, 300}) {
      EMPTY.with(x -> x.ice(7, ice)).due(ice, x -> x.land(7)).due(0, x -> x.ofCell(7, 0)).due(0, x -> x.many(1));
    }
    Scene drifted = EMPTY.with(x -> x.ice(3, 300), x -> x.ice(4, 300), x -> x.pass(0, EAST, 1));
    drifted.due(330, x -> x.land(4)).due(0, x -> x.ofCell(4, 0)).due(0, x -> x.ofCell(4, 1))
        .due(0, x -> x.ofCell(4, 4));
    Scene channel = EMPTY.with(x -> x.breaker(0, 9)).steer(0, 1, 2).calm(2);
    channel.due(11, x -> x.ofCell(1, 2)).due(0, x -> x.land(1)).due(0, x -> x.ofCell(1, 2)).due(1, x -> x.many(2));
  }

  private static void landForGood() {
    Due.sentence("3: for good");
    Scene gone = EMPTY.with(x -> x.ice(6, 300), x -> x.ice(8, 300), x -> x.ice(2, 300), x -> x.ice(12, 300));
    gone = gone.land(7);
    for (int wind : Scene.numbers(-1, 3)) {
      gone = gone.with(x -> x.pass(9, wind, 24));
    }
    gone.due(1, x -> x.ofCell(7, 3)).due(0, x -> x.ofCell(7, 0)).due(0, x -> x.ofCell(7, 1));
    gone.due(0, x -> x.ofCell(7, 2)).state(x -> x.land(7), x -> x.ice(7, 0));
  }

  private static void landEverywhere() {
    Due.sentence("3: all CELLS can be LAND");
    Scene all = EMPTY;
    for (int cell : Scene.numbers(0, 14)) {
      all = all.due(0, x -> x.land(cell));
    }
    all.state(x -> x.land(0), x -> x.land(14), x -> x.ice(7, 1));
    all.argument(x -> x.port(0), x -> x.port(14), x -> x.breaker(7, 1));
    all.due(0, x -> x.pass(9, EAST, 24)).due(0, x -> x.many(1)).due(0, x -> x.many(9));
  }

  private static void portCell() {
    Due.sentence("4: IndexOutOfBoundsException if cell is not 0 to 14");
    EMPTY.index(x -> x.port(-1), x -> x.port(15), x -> x.port(LEAST_INT), x -> x.port(MOST_INT));
    for (int cell : new int[] {0, 1, 13, 14}) {
      EMPTY.due(0, x -> x.port(cell)).due(1, x -> x.many(6)).with(x -> x.breaker(cell, 0)).due(1, x -> x.fuel(0, 1));
    }
  }

  private static void portOnLand() {
    Due.sentence("4: IllegalArgumentException if it is LAND");
    EMPTY.land(7).argument(x -> x.port(7)).due(0, x -> x.port(8)).due(1, x -> x.port(6));
  }

  private static void portTwice() {
    Due.sentence("4: IllegalArgumentException if there is a PORT");
    TWO_PORTS.argument(x -> x.port(14), x -> x.port(10)).due(2, x -> x.port(13));
    ONE_PORT.argument(x -> x.port(14));
    Scene taken = EMPTY.with(x -> x.port(3), x -> x.ship(0, 0, 1, 0), x -> x.breaker(4, 1));
    taken.due(1, x -> x.port(0)).due(2, x -> x.port(4));
  }

  private static void portFourth() {
    Due.sentence("4: IllegalStateException if there were 3");
    Scene three = TWO_PORTS.due(2, x -> x.port(7)).due(3, x -> x.many(6));
    three.state(x -> x.port(0), x -> x.port(13), x -> x.port(6));
  }

  private static void portOrder() {
    Due.sentence("4: the exception that is named first");
    Scene three = TWO_PORTS.land(0).with(x -> x.port(7));
    three.index(x -> x.port(15), x -> x.port(-1));
    three.argument(x -> x.port(14), x -> x.port(10), x -> x.port(7), x -> x.port(0));
  }

  private static void rulePort() {
    Due.sentence("5: IndexOutOfBoundsException if there is no such PORT");
    TWO_PORTS.index(x -> x.rule(-1, 0, 24), x -> x.rule(2, 0, 24), x -> x.rule(LEAST_INT, 0, 24),
        x -> x.rule(MOST_INT, 0, 24));
    Scene first = TWO_PORTS.due(24, x -> x.rule(0, 3, 24));
    first.due(3, x -> x.inForce(0, 24)).due(0, x -> x.inForce(1, 24));
    Scene last = TWO_PORTS.due(24, x -> x.rule(1, 3, 24));
    last.due(0, x -> x.inForce(0, 24)).due(3, x -> x.inForce(1, 24));
    Scene three = TWO_PORTS.with(x -> x.port(7));
    three.index(x -> x.rule(3, 0, 24)).due(24, x -> x.rule(2, 3, 24)).due(3, x -> x.inForce(2, 24));
  }

  private static void ruleLeast() {
    Due.sentence("5: IllegalArgumentException if least is not 0 to 4");
    ONE_PORT.argument(x -> x.rule(0, -1, 24), x -> x.rule(0, 5, 24), x -> x.rule(0, LEAST_INT, 24),
        x -> x.rule(0, MOST_INT, 24));
    for (int least : Scene.numbers(0, 4)) {
      ONE_PORT.due(24, x -> x.rule(0, least, 24)).due(least, x -> x.inForce(0, 24));
    }
  }

  private static void ruleLater() {
    Due.sentence("5: IllegalArgumentException if later is not 24 to 200");
    ONE_PORT.argument(x -> x.rule(0, 1, 23), x -> x.rule(0, 1, 201), x -> x.rule(0, 1, LEAST_INT),
        x -> x.rule(0, 1, MOST_INT), x -> x.rule(0, 1, 0), x -> x.rule(0, 1, -24));
    for (int later : new int[] {24, 25, 199, 200}) {
      Scene told = ONE_PORT.due(later, x -> x.rule(0, 1, later));
      told.due(0, x -> x.inForce(0, later - 1)).due(1, x -> x.inForce(0, later)).due(1, x -> x.inForce(0, later + 1));
    }
  }

  private static void ruleEleventh() {
    Due.sentence("5: IllegalStateException if 10 were told for that PORT");
    Scene nine = TWO_PORTS.times(9, x -> x.rule(0, 1, 24));
    Scene ten = nine.due(30, x -> x.rule(0, 2, 30));
    ten.due(1, x -> x.inForce(0, 29)).due(2, x -> x.inForce(0, 30));
    ten.state(x -> x.rule(0, 2, 30), x -> x.rule(0, 0, 24), x -> x.rule(0, 4, 200));
    ten.calm(48).state(x -> x.rule(0, 3, 24));
    ten.due(24, x -> x.rule(1, 3, 24)).due(3, x -> x.inForce(1, 24)).times(9, x -> x.rule(1, 1, 25))
        .state(x -> x.rule(1, 1, 25), x -> x.rule(0, 1, 25));
  }

  private static void ruleOrder() {
    Due.sentence("5: the exception that is named first");
    Scene ten = ONE_PORT.times(10, x -> x.rule(0, 1, 24));
    ten.index(x -> x.rule(1, 5, 24), x -> x.rule(1, 0, 23), x -> x.rule(-1, 5, 23), x -> x.rule(1, 0, 24));
    ten.argument(x -> x.rule(0, 5, 24), x -> x.rule(0, -1, 24), x -> x.rule(0, 0, 23), x -> x.rule(0, 0, 201));
  }

  private static void ruleHour() {
    Due.sentence("5: Returns the HOUR from which it is in force");
    for (int gone : new int[] {0, 1, 24}) {
      Scene later = ONE_PORT.calm(gone);
      later.due(gone + 24, x -> x.rule(0, 2, 24)).due(0, x -> x.inForce(0, gone + 23))
          .due(2, x -> x.inForce(0, gone + 24));
      later.due(gone + 200, x -> x.rule(0, 2, 200)).due(0, x -> x.inForce(0, gone + 199))
          .due(2, x -> x.inForce(0, gone + 200));
    }
  }

  private static void exemptPort() {
    Due.sentence("6: IndexOutOfBoundsException if there is no such PORT");
    Scene ship = TWO_PORTS.with(x -> x.ship(0, 0, 1, 0));
    ship.index(x -> Scene.bit(x.exempt(-1, 0)), x -> Scene.bit(x.exempt(2, 0)),
        x -> Scene.bit(x.exempt(LEAST_INT, 0)), x -> Scene.bit(x.exempt(MOST_INT, 0)));
    ship.due(0, x -> Scene.bit(x.exempt(0, 0)));
    ship.due(0, x -> Scene.bit(x.exempt(1, 0)));
    ship.with(x -> x.port(7)).due(0, x -> Scene.bit(x.exempt(2, 0)));
  }

  private static void exemptShip() {
    Due.sentence("6: IndexOutOfBoundsException if there is no such SHIP");
    Scene ships = ONE_PORT.times(2, x -> x.ship(0, 0, 1, 0));
    ships.index(x -> Scene.bit(x.exempt(0, -1)), x -> Scene.bit(x.exempt(0, 2)),
        x -> Scene.bit(x.exempt(0, LEAST_INT)), x -> Scene.bit(x.exempt(0, MOST_INT)),
        x -> Scene.bit(x.exempt(1, 2)), x -> Scene.bit(x.exempt(-1, -1)));
    ships.due(0, x -> Scene.bit(x.exempt(0, 0)));
    ships.due(0, x -> Scene.bit(x.exempt(0, 1)));
    Scene five = ships.times(3, x -> x.ship(0, 0, 1, 0));
    five.index(x -> Scene.bit(x.exempt(0, 5))).due(0, x -> Scene.bit(x.exempt(0, 4)));
  }

  private static void exemptBefore() {
    Due.sentence("6: Returns whether it was; for good");
    Scene all = TWO_PORTS.with(x -> x.port(7)).times(5, x -> x.ship(0, 0, 1, 0));
    for (int port : Scene.numbers(0, 2)) {
      for (int ship : Scene.numbers(0, 4)) {
        all = all.due(0, x -> Scene.bit(x.exempt(port, ship)));
        all.due(1, x -> Scene.bit(x.exempt(port, ship)));
      }
    }
    Scene one = TWO_PORTS.times(2, x -> x.ship(14, 0, 1, 0)).with(x -> Scene.bit(x.exempt(0, 0)));
    one.due(0, x -> Scene.bit(x.exempt(1, 0)));
    one.due(0, x -> Scene.bit(x.exempt(0, 1)));
    one.calm(48).due(3, x -> x.ofShip(0, 4)).due(1, x -> Scene.bit(x.exempt(0, 0)));
    one.calm(48).due(0, x -> Scene.bit(x.exempt(0, 1))).due(1, x -> Scene.bit(x.exempt(0, 1)));
  }

  private static void breakerCell() {
    Due.sentence("7: IndexOutOfBoundsException if cell is not 0 to 14");
    EMPTY.index(x -> x.breaker(-1, 1), x -> x.breaker(15, 1), x -> x.breaker(LEAST_INT, 1),
        x -> x.breaker(MOST_INT, 1));
    for (int cell : new int[] {0, 1, 13, 14}) {
      EMPTY.due(0, x -> x.breaker(cell, 1)).due(cell, x -> x.ofBreaker(0, 0));
    }
  }

  private static void breakerFuel() {
    Due.sentence("7: IllegalArgumentException if fuel is not 0 to 999");
    EMPTY.argument(x -> x.breaker(7, -1), x -> x.breaker(7, 1000), x -> x.breaker(7, LEAST_INT),
        x -> x.breaker(7, MOST_INT));
    for (int fuel : new int[] {0, 1, 998, 999}) {
      EMPTY.due(0, x -> x.breaker(7, fuel)).due(fuel, x -> x.ofBreaker(0, 1));
    }
  }

  private static void breakerOnLand() {
    Due.sentence("7: IllegalArgumentException if it is LAND");
    EMPTY.land(7).argument(x -> x.breaker(7, 1)).due(0, x -> x.breaker(6, 1)).due(1, x -> x.breaker(8, 1));
  }

  private static void breakerThird() {
    Due.sentence("7: IllegalStateException if there were 2");
    Scene two = EMPTY.due(0, x -> x.breaker(7, 1)).due(1, x -> x.breaker(7, 2)).due(2, x -> x.many(5));
    two.state(x -> x.breaker(7, 1), x -> x.breaker(0, 0), x -> x.breaker(14, 999));
    two.due(1, x -> x.ofBreaker(0, 1)).due(2, x -> x.ofBreaker(1, 1));
  }

  private static void breakerOrder() {
    Due.sentence("7: the exception that is named first");
    Scene two = EMPTY.land(3).times(2, x -> x.breaker(7, 1));
    two.index(x -> x.breaker(15, 1), x -> x.breaker(-1, -1), x -> x.breaker(15, 1000));
    two.argument(x -> x.breaker(3, 1), x -> x.breaker(7, -1), x -> x.breaker(7, 1000));
    EMPTY.index(x -> x.breaker(15, -1), x -> x.breaker(-1, 1000));
  }

  private static void shipCell() {
    Due.sentence("8: IndexOutOfBoundsException if cell is not 0 to 14");
    ONE_PORT.index(x -> x.ship(-1, 0, 1, 0), x -> x.ship(15, 0, 1, 0), x -> x.ship(LEAST_INT, 0, 1, 0),
        x -> x.ship(MOST_INT, 0, 1, 0));
    for (int cell : new int[] {0, 1, 13, 14}) {
      ONE_PORT.due(0, x -> x.ship(cell, 0, 1, 0)).due(cell, x -> x.ofShip(0, 0));
    }
  }

  private static void shipPort() {
    Due.sentence("8: IndexOutOfBoundsException if there is no such PORT");
    TWO_PORTS.index(x -> x.ship(0, 0, 1, -1), x -> x.ship(0, 0, 1, 2), x -> x.ship(0, 0, 1, LEAST_INT),
        x -> x.ship(0, 0, 1, MOST_INT));
    TWO_PORTS.due(0, x -> x.ship(0, 0, 1, 0)).due(0, x -> x.ofShip(0, 3)).due(6, x -> x.way(0, 14));
    TWO_PORTS.due(0, x -> x.ship(10, 0, 1, 1)).due(1, x -> x.ofShip(0, 3)).due(1, x -> x.pass(0, NONE, 1));
  }

  private static void shipRank() {
    Due.sentence("8: IllegalArgumentException if rank is not 0 to 4");
    ONE_PORT.argument(x -> x.ship(0, -1, 1, 0), x -> x.ship(0, 5, 1, 0), x -> x.ship(0, LEAST_INT, 1, 0),
        x -> x.ship(0, MOST_INT, 1, 0));
    for (int rank : Scene.numbers(0, 4)) {
      ONE_PORT.due(0, x -> x.ship(0, rank, 1, 0)).due(rank, x -> x.ofShip(0, 1));
    }
  }

  private static void shipPower() {
    Due.sentence("8: IllegalArgumentException if power is not 1 to 9");
    ONE_PORT.argument(x -> x.ship(0, 0, 0, 0), x -> x.ship(0, 0, 10, 0), x -> x.ship(0, 0, LEAST_INT, 0),
        x -> x.ship(0, 0, MOST_INT, 0), x -> x.ship(0, 0, -1, 0));
    for (int power : Scene.numbers(1, 9)) {
      ONE_PORT.due(0, x -> x.ship(0, 0, power, 0)).due(power, x -> x.ofShip(0, 2));
    }
  }

  private static void shipOnLand() {
    Due.sentence("8: IllegalArgumentException if it is LAND");
    Scene land = ONE_PORT.land(7);
    land.argument(x -> x.ship(7, 0, 1, 0)).due(0, x -> x.ship(6, 0, 1, 0)).due(1, x -> x.ship(8, 0, 1, 0));
  }

  private static void shipSixth() {
    Due.sentence("8: IllegalStateException if there were 5 (at most 5 ever)");
    Scene ships = ONE_PORT;
    for (int number : Scene.numbers(0, 4)) {
      ships = ships.due(number, x -> x.ship(14, 0, 1, 0)).due(number + 1, x -> x.many(3));
    }
    ships.state(x -> x.ship(14, 0, 1, 0), x -> x.ship(0, 4, 9, 0));
    Scene arrived = ships.due(5, x -> x.pass(0, NONE, 1)).due(5, x -> x.many(4)).due(5, x -> x.many(3));
    arrived.state(x -> x.ship(14, 0, 1, 0), x -> x.ship(0, 4, 9, 0));
    Scene fourArrived = ONE_PORT.times(4, x -> x.ship(14, 0, 1, 0)).calm(1);
    fourArrived.due(4, x -> x.ship(0, 0, 1, 0)).state(x -> x.ship(0, 0, 1, 0));
  }

  private static void shipOrder() {
    Due.sentence("8: the exception that is named first");
    Scene five = ONE_PORT.land(7).times(5, x -> x.ship(0, 0, 1, 0));
    five.index(x -> x.ship(15, 0, 1, 0), x -> x.ship(0, 0, 1, 1), x -> x.ship(7, 5, 0, 1), x -> x.ship(-1, 5, 10, -1));
    five.argument(x -> x.ship(7, 0, 1, 0), x -> x.ship(0, 5, 1, 0), x -> x.ship(0, -1, 1, 0), x -> x.ship(0, 0, 0, 0),
        x -> x.ship(0, 0, 10, 0));
    ONE_PORT.land(7).index(x -> x.ship(7, 0, 1, 1), x -> x.ship(0, 5, 1, 1), x -> x.ship(0, 0, 0, -1),
        x -> x.ship(15, -1, 0, 0));
  }
}
