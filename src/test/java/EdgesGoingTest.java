/** Sections 2 to 4 (who goes, waits and arrives in an HOUR) at their boundaries: each sentence by itself. */
public final class EdgesGoingTest {
  private static final int NONE = Scene.NONE;
  private static final int EAST = Scene.EAST;

  private static final int FREE = 0;
  private static final int LED = 1;
  private static final int TOWED = 2;
  private static final int ARRIVED = 3;

  private static final Scene.Call EAST_HOUR = x -> x.pass(0, EAST, 1);
  private static final Scene PORT_FAR_OFF = Scene.of(x -> x.port(14));
  /** NOW is 24, from which on PORT 0 in CELL 1 lets in no CLASS below 2. */
  private static final Scene RULED = Scene.of(x -> x.port(1), x -> x.rule(0, 2, 24)).calm(24);

  public static void main(String[] args) {
    breakerToANeighbour();
    breakerOntoLand();
    breakerDropsAll();
    breakerThroughIce();
    breakerThroughPress();
    breakerBehindFreezing();
    breakerCosts();
    breakerWithoutARoute();
    breakerStuck();
    breakerMakesAChannel();
    breakerOneCellAnHour();
    shipToANeighbour();
    shipOntoLand();
    shipDropsAll();
    shipByPower();
    shipByBearing();
    shipByPowerFirst();
    shipByPress();
    shipInAChannel();
    shipInAChannelWithPress();
    shipBehindBreakers();
    shipWithoutARoute();
    shipWaitsWhereItIs();
    ledShipGoes();
    ledShipByPower();
    ledShipByBearing();
    ledShipKeepsItsRoute();
    towedShipGoes();
    towedShipByBearing();
    towedShipByPress();
    threeGoWithOne();
    boundShipWaits();
    arrivesWithoutAWait();
    arrivesByTheRulesHour();
    arrivesByClass();
    arrivesExempt();
    arrivesBound();
    arrivesInItsOwnPort();
    waitsByTheRule();
    waitsByTheRuleInPlace();
    damageByPress();
    damageByEachReason();
    damageWhereItWent();
    inForceByHour();
    inForceToldLast();
    Due.end("EdgesGoingTest");
  }

  private static boolean isNeighbour(int one, int other) {
    return Math.abs(one / 5 - other / 5) + Math.abs(one % 5 - other % 5) == 1;
  }

  /** In the next HOUR, with an east wind, CELL 1 comes to have this ICE and PRESS: it gives nothing to LAND. */
  private static Scene sea(int ice, int press) {
    return PORT_FAR_OFF.land(2).with(x -> x.ice(0, 10 * press), x -> x.ice(1, ice - press));
  }

  /** The ship's WAITS by REASON 0, 1, 2, 3, 4. */
  private static Scene waits(Scene scene, int ship, int... waits) {
    for (int reason : Scene.numbers(0, 4)) {
      scene.due(waits[reason], x -> x.ofShip(ship, 10 + reason));
    }
    return scene;
  }

  private static void breakerToANeighbour() {
    Due.sentence("section 2: if it is a NEIGHBOUR; if it is no NEIGHBOUR the ROUTE is dropped");
    for (int from : Scene.numbers(0, 14)) {
      for (int to : Scene.numbers(0, 14)) {
        boolean near = isNeighbour(from, to);
        Scene gone = Scene.of(x -> x.breaker(from, 9)).steer(0, to).calm(1);
        gone.due(near ? to : from, x -> x.ofBreaker(0, 0)).due(near ? 6 : 9, x -> x.ofBreaker(0, 1));
        gone.due(0, x -> x.ofBreaker(0, 2)).due(0, x -> x.ofBreaker(0, 5));
        gone.due(near ? 12 : 0, x -> x.ofCell(to, 2)).due(near ? 1 : 0, x -> x.many(2));
      }
    }
  }

  private static void breakerOntoLand() {
    Due.sentence("section 2: no LAND; if it is LAND, the ROUTE is dropped");
    Scene land = Scene.of(x -> x.breaker(7, 9)).land(8).steer(0, 8, 7, 6).calm(1);
    land.due(7, x -> x.ofBreaker(0, 0)).due(9, x -> x.ofBreaker(0, 1)).due(0, x -> x.ofBreaker(0, 2))
        .due(0, x -> x.ofBreaker(0, 5)).due(0, x -> x.ofCell(8, 2));
    Scene.of(x -> x.breaker(7, 0)).land(8).steer(0, 8).calm(1).due(0, x -> x.ofBreaker(0, 2))
        .due(0, x -> x.ofBreaker(0, 5));
  }

  private static void breakerDropsAll() {
    Due.sentence("section 2: the ROUTE is dropped, all of it, and it stays in that HOUR");
    for (int count : Scene.numbers(0, 7)) {
      Scene route = Scene.of(x -> x.breaker(7, 99)).steer(0, 7);
      for (int told = 0; told < count; told++) {
        route = route.steer(0, told % 2 == 0 ? 8 : 7);
      }
      route.calm(1).due(0, x -> x.ofBreaker(0, 2)).due(7, x -> x.ofBreaker(0, 0)).due(0, x -> x.ofBreaker(0, 5));
      route.calm(2).due(7, x -> x.ofBreaker(0, 0)).due(99, x -> x.ofBreaker(0, 1));
    }
    Scene behind = Scene.of(x -> x.breaker(7, 99)).steer(0, 8, 6, 7).calm(1).due(8, x -> x.ofBreaker(0, 0));
    behind.due(2, x -> x.ofBreaker(0, 2)).calm(1).due(0, x -> x.ofBreaker(0, 2)).due(8, x -> x.ofBreaker(0, 0));
  }

  private static void breakerThroughIce() {
    Due.sentence("section 2: its ICE is 150 or less");
    for (int ice : new int[] {0, 149, 150, 151, 300}) {
      Scene gone = Scene.of(x -> x.breaker(0, 99), x -> x.ice(1, ice)).steer(0, 1).calm(1);
      gone.due(ice <= 150 ? 1 : 0, x -> x.ofBreaker(0, 0)).due(ice <= 150 ? 0 : 1, x -> x.ofBreaker(0, 5));
    }
  }

  private static void breakerThroughPress() {
    Due.sentence("section 2: its ICE and 5 for each of PRESS are 150 or less, together");
    int[][] ices = {{100, 10}, {99, 10}, {101, 10}, {25, 25}, {26, 25}, {145, 1}, {146, 1}, {30, 24}, {31, 24},
        {30, 30}};
    for (int[] ice : ices) {
      boolean goes = ice[0] + 5 * ice[1] <= 150;
      Scene gone = sea(ice[0], ice[1]).with(x -> x.breaker(0, 99)).steer(0, 1).with(EAST_HOUR);
      gone.due(ice[0], x -> x.ofCell(1, 0)).due(ice[1], x -> x.ofCell(1, 1)).due(goes ? 1 : 0, x -> x.ofBreaker(0, 0))
          .due(goes ? 0 : 1, x -> x.ofBreaker(0, 5));
    }
    Due.sentence("section 2: a CHANNEL there makes its ICE no less for a BREAKER");
    Scene channel = Scene.of(x -> x.breaker(0, 99)).steer(0, 1, 0, 1).calm(2);
    channel.with(x -> x.ice(1, 151)).calm(1).due(0, x -> x.ofBreaker(0, 0)).due(1, x -> x.ofBreaker(0, 5));
    channel.with(x -> x.ice(1, 150)).calm(1).due(1, x -> x.ofBreaker(0, 0)).due(99 - 6 - 8, x -> x.ofBreaker(0, 1));
  }

  private static void breakerBehindFreezing() {
    Due.sentence("section 2: by the ICE as it is behind DRIFT and FREEZING");
    Scene at149 = Scene.of(x -> x.breaker(0, 99), x -> x.ice(1, 149)).steer(0, 1);
    at149.with(x -> x.pass(1, NONE, 1)).due(1, x -> x.ofBreaker(0, 0)).due(99 - 8, x -> x.ofBreaker(0, 1));
    at149.with(x -> x.pass(2, NONE, 1)).due(0, x -> x.ofBreaker(0, 0));
    Scene at166 = Scene.of(x -> x.breaker(0, 99), x -> x.ice(1, 166)).steer(0, 1);
    at166.with(EAST_HOUR).due(1, x -> x.ofBreaker(0, 0));
    at166.with(x -> x.pass(1, EAST, 1)).due(0, x -> x.ofBreaker(0, 0));
  }

  private static void breakerCosts() {
    Due.sentence("section 2: FUEL is no less than what it costs: 3, and that ICE / 30");
    int[] ices = {0, 29, 30, 31, 59, 60, 89, 90, 119, 120, 149, 150};
    int[] costs = {3, 3, 4, 4, 4, 5, 5, 6, 6, 7, 7, 8};
    for (int i : Scene.numbers(0, ices.length - 1)) {
      for (int more : Scene.numbers(-1, 1)) {
        int fuel = costs[i] + more;
        Scene gone = Scene.of(x -> x.ice(1, ices[i]), x -> x.breaker(0, fuel)).steer(0, 1).calm(1);
        gone.due(more < 0 ? 0 : 1, x -> x.ofBreaker(0, 0)).due(more < 0 ? fuel : more, x -> x.ofBreaker(0, 1));
        gone.due(more < 0 ? 1 : 0, x -> x.ofBreaker(0, 2)).due(more < 0 ? 1 : 0, x -> x.ofBreaker(0, 5));
      }
    }
    Scene.of(x -> x.breaker(0, 0)).steer(0, 1).calm(3).due(3, x -> x.ofBreaker(0, 5)).due(0, x -> x.ofBreaker(0, 1));
    Due.sentence("section 2: that ICE, without PRESS");
    Scene pressed = sea(29, 20).with(x -> x.breaker(0, 3)).steer(0, 1).with(EAST_HOUR);
    pressed.due(1, x -> x.ofBreaker(0, 0)).due(0, x -> x.ofBreaker(0, 1));
    sea(30, 20).with(x -> x.breaker(0, 3)).steer(0, 1).with(EAST_HOUR).due(1, x -> x.ofBreaker(0, 5));
  }

  private static void breakerWithoutARoute() {
    Due.sentence("section 2: one with a ROUTE");
    Scene.of(x -> x.breaker(7, 0), x -> x.breaker(7, 99)).calm(24).due(0, x -> x.ofBreaker(0, 5))
        .due(0, x -> x.ofBreaker(1, 5)).due(7, x -> x.ofBreaker(1, 0)).due(99, x -> x.ofBreaker(1, 1))
        .due(0, x -> x.many(2));
  }

  private static void breakerStuck() {
    Due.sentence("section 2: Otherwise it waits (STUCK), and nothing changes");
    Scene stuck = Scene.of(x -> x.breaker(0, 99), x -> x.breaker(0, 99), x -> x.ice(1, 151)).steer(0, 1, 0, 1);
    stuck.calm(5).due(5, x -> x.ofBreaker(0, 5)).due(0, x -> x.ofBreaker(1, 5)).due(99, x -> x.ofBreaker(0, 1))
        .due(3, x -> x.ofBreaker(0, 2)).due(0, x -> x.ofBreaker(0, 0)).due(0, x -> x.many(2));
    Scene free = stuck.calm(5).with(x -> x.ice(1, 150)).calm(1);
    free.due(1, x -> x.ofBreaker(0, 0)).due(5, x -> x.ofBreaker(0, 5)).due(2, x -> x.ofBreaker(0, 2));
    Scene one = Scene.of(x -> x.breaker(0, 99), x -> x.breaker(0, 99), x -> x.ice(1, 151)).steer(1, 1).calm(2);
    one.due(0, x -> x.ofBreaker(0, 5)).due(2, x -> x.ofBreaker(1, 5));
  }

  private static void breakerMakesAChannel() {
    Due.sentence("section 2: its CHANNEL is 12");
    Scene gone = Scene.of(x -> x.breaker(0, 99)).steer(0, 1, 0, 1).calm(1);
    gone.due(12, x -> x.ofCell(1, 2)).due(0, x -> x.ofCell(0, 2));
    gone.calm(1).due(11, x -> x.ofCell(1, 2)).due(12, x -> x.ofCell(0, 2));
    gone.calm(2).due(12, x -> x.ofCell(1, 2)).due(11, x -> x.ofCell(0, 2));
    Scene pressed = sea(30, 20).with(x -> x.breaker(0, 99)).steer(0, 1).with(EAST_HOUR);
    pressed.due(12, x -> x.ofCell(1, 2));
  }

  private static void breakerOneCellAnHour() {
    Due.sentence("section 2: In an HOUR one goes into the first CELL of its ROUTE");
    Scene both = Scene.of(x -> x.breaker(0, 99), x -> x.breaker(10, 99)).steer(0, 1, 2, 3).steer(1, 11, 6);
    int[] firsts = {1, 2, 3, 3};
    int[] seconds = {11, 6, 6, 6};
    for (int hours : Scene.numbers(1, 4)) {
      Scene gone = both.calm(hours);
      gone.due(firsts[hours - 1], x -> x.ofBreaker(0, 0)).due(seconds[hours - 1], x -> x.ofBreaker(1, 0));
      gone.due(Math.max(0, 3 - hours), x -> x.ofBreaker(0, 2)).due(Math.max(0, 2 - hours), x -> x.ofBreaker(1, 2));
    }
  }

  private static void shipToANeighbour() {
    Due.sentence("section 3: if it is a NEIGHBOUR; if it is no NEIGHBOUR, the ROUTE is dropped, and it WAITS by 0");
    for (int from : Scene.numbers(0, 14)) {
      for (int to : Scene.numbers(0, 14)) {
        boolean near = isNeighbour(from, to);
        int port = (Math.max(from, to) + 1) % 15 == Math.min(from, to) ? 7 : (Math.max(from, to) + 1) % 15;
        Scene gone = Scene.of(x -> x.port(port), x -> x.ship(from, 0, 1, 0)).sail(0, to).calm(1);
        gone.due(near ? to : from, x -> x.ofShip(0, 0)).due(0, x -> x.ofShip(0, 6)).due(FREE, x -> x.ofShip(0, 4));
        waits(gone, 0, near ? 0 : 1, 0, 0, 0, 0);
      }
    }
  }

  private static void shipOntoLand() {
    Due.sentence("section 3: if it is LAND, the ROUTE is dropped, and it WAITS by 0");
    Scene land = PORT_FAR_OFF.with(x -> x.ship(7, 4, 9, 0)).land(8).sail(0, 8, 7, 6).calm(1);
    waits(land, 0, 1, 0, 0, 0, 0).due(7, x -> x.ofShip(0, 0)).due(0, x -> x.ofShip(0, 6));
  }

  private static void shipDropsAll() {
    Due.sentence("section 3: the ROUTE is dropped, all of it, and it stays in that HOUR");
    for (int count : Scene.numbers(0, 7)) {
      Scene route = PORT_FAR_OFF.with(x -> x.ship(7, 4, 9, 0)).sail(0, 7);
      for (int told = 0; told < count; told++) {
        route = route.sail(0, told % 2 == 0 ? 8 : 7);
      }
      waits(route.calm(1), 0, 1, 0, 0, 0, 0).due(0, x -> x.ofShip(0, 6)).due(7, x -> x.ofShip(0, 0));
      waits(route.calm(2), 0, 2, 0, 0, 0, 0).due(7, x -> x.ofShip(0, 0));
    }
    Scene behind = PORT_FAR_OFF.with(x -> x.ship(7, 4, 9, 0)).sail(0, 8, 6, 7).calm(1).due(8, x -> x.ofShip(0, 0));
    waits(behind.due(2, x -> x.ofShip(0, 6)).calm(1), 0, 1, 0, 0, 0, 0).due(0, x -> x.ofShip(0, 6));
  }

  private static void shipByPower() {
    Due.sentence("section 3: WORTH no more than 10 times its POWER (otherwise it WAITS by 1)");
    for (int power : Scene.numbers(1, 9)) {
      for (int more : Scene.numbers(-1, 1)) {
        Scene gone = PORT_FAR_OFF.with(x -> x.ship(0, 4, power, 0), x -> x.ice(1, 10 * power + more)).sail(0, 1)
            .calm(1);
        gone.due(more > 0 ? 0 : 1, x -> x.ofShip(0, 0)).due(more > 0 ? 1 : 0, x -> x.ofShip(0, 6));
        waits(gone, 0, 0, more > 0 ? 1 : 0, 0, 0, 0);
      }
    }
  }

  private static void shipByBearing() {
    Due.sentence("section 3: and no more than it BEARS (otherwise it WAITS by 2): 10, 30, 50, 80 by its CLASS");
    int[] bears = {10, 30, 50, 80};
    for (int rank : Scene.numbers(0, 3)) {
      for (int more : Scene.numbers(-1, 1)) {
        Scene gone = PORT_FAR_OFF.with(x -> x.ship(0, rank, 9, 0), x -> x.ice(1, bears[rank] + more)).sail(0, 1)
            .calm(1);
        gone.due(more > 0 ? 0 : 1, x -> x.ofShip(0, 0)).due(more > 0 ? 1 : 0, x -> x.ofShip(0, 6));
        waits(gone, 0, 0, 0, more > 0 ? 1 : 0, 0, 0);
      }
    }
  }

  private static void shipByPowerFirst() {
    Due.sentence("section 3: POWER is looked at ahead of what it BEARS");
    int[] bears = {10, 30, 50, 80, 120};
    for (int rank : Scene.numbers(0, 4)) {
      for (int power : Scene.numbers(1, 9)) {
        for (int ice : new int[] {10, 11, 30, 31, 50, 51, 80, 81, 90, 91, 10 * power, 10 * power + 1, 120, 121}) {
          int reason = ice > 10 * power ? 1 : ice > bears[rank] ? 2 : 0;
          Scene gone = PORT_FAR_OFF.with(x -> x.ship(0, rank, power, 0), x -> x.ice(1, ice)).sail(0, 1).calm(1);
          waits(gone, 0, 0, reason == 1 ? 1 : 0, reason == 2 ? 1 : 0, 0, 0);
        }
      }
    }
  }

  private static void shipByPress() {
    Due.sentence("section 3: WORTH: and 5 for each of PRESS");
    for (int press : new int[] {1, 2, 5, 8}) {
      for (int more : Scene.numbers(-1, 1)) {
        Scene strong = sea(50 + more - 5 * press, press).with(x -> x.ship(0, 2, 9, 0)).sail(0, 1).with(EAST_HOUR);
        strong.due(50 + more, x -> x.ofCell(1, 4)).due(more > 0 ? 0 : 1, x -> x.ofShip(0, 0));
        waits(strong, 0, 0, 0, more > 0 ? 1 : 0, 0, 0);
        Scene weak = sea(50 + more - 5 * press, press).with(x -> x.ship(0, 4, 5, 0)).sail(0, 1).with(EAST_HOUR);
        waits(weak, 0, 0, more > 0 ? 1 : 0, 0, 0, 0);
      }
    }
  }

  private static void shipInAChannel() {
    Due.sentence("section 3: WORTH a quarter of its ICE, if there is a CHANNEL");
    Scene broken = PORT_FAR_OFF.with(x -> x.breaker(0, 99)).steer(0, 1).calm(1);
    for (int gone : new int[] {0, 10, 11}) {
      for (int ice : new int[] {30, 31, 119, 120, 123, 124}) {
        boolean open = gone <= 10;
        boolean goes = (open ? ice / 4 : ice) <= 30;
        Scene ship = broken.calm(gone).with(x -> x.ice(1, ice), x -> x.ship(0, 1, 9, 0)).sail(0, 1).calm(1);
        ship.due(11 - gone, x -> x.ofCell(1, 2)).due(goes ? 1 : 0, x -> x.ofShip(0, 0));
      }
    }
  }

  private static void shipInAChannelWithPress() {
    Due.sentence("section 3: WORTH in a CHANNEL, and 5 for each of PRESS");
    for (int more : new int[] {0, 1}) {
      Scene pressed = sea(0, 0).with(x -> x.breaker(0, 99)).steer(0, 1).calm(1);
      pressed = pressed.with(x -> x.ice(0, 40), x -> x.ice(1, 39 + 4 * more)).with(x -> x.ship(0, 1, 9, 0)).sail(0, 1);
      Scene gone = pressed.with(EAST_HOUR).due(30 + more, x -> x.ofCell(1, 4)).due(9, x -> x.ofCell(1, 2));
      gone.due(1 - more, x -> x.ofShip(0, 0)).due(more, x -> x.ofShip(0, 12));
    }
  }

  private static void shipBehindBreakers() {
    Due.sentence("section 1: BREAKERS go ahead of SHIPS");
    for (int ice : new int[] {120, 123, 124, 127}) {
      Scene gone = PORT_FAR_OFF.with(x -> x.breaker(0, 99), x -> x.ship(5, 1, 9, 0), x -> x.ice(1, ice));
      Scene far = gone.steer(0, 1).sail(0, 0, 1).calm(2);
      far.due(ice <= 123 ? 1 : 0, x -> x.ofShip(0, 0));
      Scene near = gone.with(x -> x.ship(2, 1, 9, 0)).steer(0, 1).sail(1, 1).calm(1);
      near.due(ice <= 123 ? 1 : 2, x -> x.ofShip(1, 0)).due(ice <= 123 ? 0 : 1, x -> x.ofShip(1, 12));
    }
  }

  private static void shipWithoutARoute() {
    Due.sentence("section 3: FREE without a ROUTE: it WAITS by 0");
    Scene ship = PORT_FAR_OFF.with(x -> x.ship(7, 4, 9, 0));
    for (int hours : new int[] {1, 2, 24}) {
      waits(ship.calm(hours), 0, hours, 0, 0, 0, 0).due(7, x -> x.ofShip(0, 0)).due(hours, x -> x.many(7));
    }
    Scene gone = ship.sail(0, 8).calm(1);
    waits(gone, 0, 0, 0, 0, 0, 0).due(8, x -> x.ofShip(0, 0)).due(0, x -> x.many(7));
    waits(gone.calm(1), 0, 1, 0, 0, 0, 0);
  }

  private static void shipWaitsWhereItIs() {
    Due.sentence("section 3: one that WAITS by 1 or 2 keeps its ROUTE");
    Scene shut = PORT_FAR_OFF.with(x -> x.ship(0, 1, 4, 0), x -> x.ice(1, 41)).sail(0, 1, 2).calm(3);
    waits(shut, 0, 0, 3, 0, 0, 0).due(2, x -> x.ofShip(0, 6)).due(0, x -> x.ofShip(0, 0));
    Scene less = shut.with(x -> x.ice(1, 31)).calm(2);
    waits(less, 0, 0, 3, 2, 0, 0).due(2, x -> x.ofShip(0, 6));
    waits(less.with(x -> x.ice(1, 30)).calm(1), 0, 0, 3, 2, 0, 0).due(1, x -> x.ofShip(0, 6))
        .due(1, x -> x.ofShip(0, 0));
  }

  private static void ledShipGoes() {
    Due.sentence("section 3: LED it goes to the CELL of the BREAKER; its ROUTE is dropped, and its DUES are 4 more");
    Scene led = PORT_FAR_OFF.with(x -> x.breaker(0, 99), x -> x.ship(0, 0, 1, 0), x -> x.lead(0, 0));
    Scene gone = led.steer(0, 1, 2).sail(0, 5, 6, 7).calm(1);
    gone.due(1, x -> x.ofShip(0, 0)).due(0, x -> x.ofShip(0, 6)).due(4, x -> x.ofShip(0, 8))
        .due(LED, x -> x.ofShip(0, 4));
    waits(gone, 0, 0, 0, 0, 0, 0);
    gone.sail(0, 0).calm(1).due(2, x -> x.ofShip(0, 0)).due(8, x -> x.ofShip(0, 8)).due(0, x -> x.ofShip(0, 6));
  }

  private static void ledShipByPower() {
    Due.sentence("section 3: LED as one that is FREE; if it can not, it is FREE, and WAITS by 1");
    int[][] ices = {{1, 43, 0, 44, 0}, {3, 123, 0, 124, 0}, {8, 43, 14, 44, 14}, {9, 43, 16, 44, 16}};
    for (int[] row : ices) {
      for (int more : new int[] {0, 1}) {
        Scene led = sea(row[1 + 2 * more], row[2 + 2 * more]).with(x -> x.breaker(0, 99), x -> x.ship(0, 4, row[0], 0));
        Scene gone = led.with(x -> x.lead(0, 0)).steer(0, 1).with(EAST_HOUR).due(1, x -> x.ofBreaker(0, 0));
        gone.due(10 * row[0] + more, x -> x.ofCell(1, 4)).due(1 - more, x -> x.ofShip(0, 0));
        gone.due(more == 1 ? FREE : LED, x -> x.ofShip(0, 4)).due(more == 1 ? NONE : 0, x -> x.ofShip(0, 5));
        waits(gone.due(4 - 4 * more, x -> x.ofShip(0, 8)), 0, 0, more, 0, 0, 0);
      }
    }
    Scene both = PORT_FAR_OFF.with(x -> x.breaker(0, 99), x -> x.ship(0, 0, 1, 0), x -> x.lead(0, 0));
    for (int ice : new int[] {40, 43, 44, 150}) {
      Scene gone = both.with(x -> x.ice(1, ice)).steer(0, 1).calm(1);
      waits(gone, 0, 0, ice > 43 ? 1 : 0, 0, 0, 0).due(ice > 43 ? 0 : 1, x -> x.ofShip(0, 0));
    }
  }

  private static void ledShipByBearing() {
    Due.sentence("section 3: LED as one that is FREE; if it can not, it is FREE, and WAITS by 2");
    int[] mosts = {43, 123};
    for (int rank : Scene.numbers(0, 1)) {
      for (int more : new int[] {0, 1}) {
        Scene led = PORT_FAR_OFF.with(x -> x.breaker(0, 99), x -> x.ship(0, rank, 9, 0), x -> x.lead(0, 0));
        Scene gone = led.with(x -> x.ice(1, mosts[rank] + more)).steer(0, 1).calm(1);
        gone.due(1 - more, x -> x.ofShip(0, 0)).due(1 - more, x -> x.ofShip(0, 4))
            .due(1 - more, x -> x.ofBreaker(0, 3));
        waits(gone.due(4 - 4 * more, x -> x.many(8)), 0, 0, 0, more, 0, 0);
      }
    }
  }

  private static void ledShipKeepsItsRoute() {
    Due.sentence("section 3: one that can not follow is FREE: in the next HOUR it goes by itself");
    Scene led = PORT_FAR_OFF.with(x -> x.breaker(0, 99), x -> x.ship(0, 1, 9, 0), x -> x.ice(1, 124),
        x -> x.lead(0, 0));
    Scene left = led.steer(0, 1).sail(0, 5, 10).calm(1).due(2, x -> x.ofShip(0, 6));
    waits(left.calm(1).due(5, x -> x.ofShip(0, 0)), 0, 0, 0, 1, 0, 0);
    Scene towed = PORT_FAR_OFF.with(x -> x.breaker(0, 99), x -> x.ship(0, 1, 9, 0), x -> x.ice(1, 124),
        x -> x.tow(0, 0));
    waits(towed.steer(0, 1).calm(2).due(0, x -> x.ofShip(0, 0)), 0, 1, 0, 1, 0, 0);
  }

  private static void towedShipGoes() {
    Due.sentence("section 3: TOWED without looking at its POWER; its DUES are 9 more");
    Scene towed = PORT_FAR_OFF.with(x -> x.breaker(0, 99), x -> x.ship(0, 2, 1, 0), x -> x.ice(1, 150),
        x -> x.tow(0, 0));
    Scene gone = towed.steer(0, 1, 2).sail(0, 5, 6).calm(1).due(37, x -> x.ofCell(1, 4)).due(1, x -> x.ofShip(0, 0));
    waits(gone.due(9, x -> x.ofShip(0, 8)).due(0, x -> x.ofShip(0, 6))
        .due(TOWED, x -> x.ofShip(0, 4)), 0, 0, 0, 0, 0, 0);
    gone.calm(1).due(2, x -> x.ofShip(0, 0)).due(18, x -> x.ofShip(0, 8));
  }

  private static void towedShipByBearing() {
    Due.sentence("section 3: TOWED, if it can not, it is FREE, and WAITS by 2");
    for (int more : new int[] {0, 1}) {
      Scene towed = PORT_FAR_OFF.with(x -> x.breaker(0, 99), x -> x.ship(0, 1, 1, 0), x -> x.tow(0, 0));
      Scene gone = towed.with(x -> x.ice(1, 123 + more)).steer(0, 1).calm(1).due(1 - more, x -> x.ofShip(0, 0));
      waits(gone.due(9 - 9 * more, x -> x.many(8)), 0, 0, 0, more, 0, 0);
      gone.due(more == 1 ? FREE : TOWED, x -> x.ofShip(0, 4)).due(more == 1 ? NONE : 0, x -> x.ofBreaker(0, 4));
    }
  }

  /** Worths above 90 are reached by PRESS alone: a CHANNEL leaves a quarter of 150 at most. */
  private static void towedShipByPress() {
    Due.sentence("section 3: It BEARS 50, 80 or 120, by its CLASS");
    int[] ranks = {2, 3, 4};
    int[][] ices = {{30, 9, 52}, {27, 9, 51}, {23, 9, 50}, {40, 14, 80}, {44, 14, 81}, {23, 23, 120}, {24, 23, 121}};
    int[] bears = {50, 80, 120};
    for (int i : Scene.numbers(0, 2)) {
      for (int[] ice : ices) {
        Scene towed = sea(ice[0], ice[1]).with(x -> x.breaker(0, 99), x -> x.ship(0, ranks[i], 1, 0), x -> x.tow(0, 0));
        Scene gone = towed.steer(0, 1).with(EAST_HOUR).due(ice[2], x -> x.ofCell(1, 4)).due(1, x -> x.ofBreaker(0, 0));
        boolean goes = ice[2] <= bears[i];
        waits(gone.due(goes ? 1 : 0, x -> x.ofShip(0, 0)), 0, 0, 0, goes ? 0 : 1, 0, 0);
      }
    }
  }

  private static void threeGoWithOne() {
    Due.sentence("section 3: 2 are LED by one, and 1 is TOWED: all go");
    Scene three = PORT_FAR_OFF.with(x -> x.breaker(0, 99), x -> x.breaker(0, 99)).times(5, x -> x.ship(0, 1, 9, 0));
    three = three.with(x -> x.lead(0, 0), x -> x.lead(0, 4), x -> x.tow(0, 2), x -> x.lead(1, 1)).steer(0, 1).calm(1);
    int[] cells = {1, 0, 1, 0, 1};
    int[] dues = {4, 0, 9, 0, 4};
    for (int ship : Scene.numbers(0, 4)) {
      three.due(cells[ship], x -> x.ofShip(ship, 0)).due(dues[ship], x -> x.ofShip(ship, 8));
    }
    waits(three, 1, 0, 0, 0, 0, 1);
    waits(three, 3, 1, 0, 0, 0, 0);
    three.due(17, x -> x.many(8)).due(2, x -> x.many(7));
  }

  private static void boundShipWaits() {
    Due.sentence("section 3: if its BREAKER did not go, and is in its CELL: it WAITS by 4");
    Scene two = PORT_FAR_OFF.with(x -> x.breaker(7, 10)).times(2, x -> x.ship(7, 1, 9, 0));
    two = two.with(x -> x.lead(0, 0), x -> x.tow(0, 1)).sail(0, 6).sail(1, 6).land(2);
    Scene[] stays = {two, two.with(x -> x.ice(8, 151)).steer(0, 8), two.steer(0, 2), two.steer(0, 9), two.steer(0, 7)};
    for (Scene stay : stays) {
      Scene waited = stay.calm(1).due(LED, x -> x.ofShip(0, 4)).due(TOWED, x -> x.ofShip(1, 4));
      waits(waited, 0, 0, 0, 0, 0, 1).due(1, x -> x.ofShip(0, 6)).due(7, x -> x.ofShip(0, 0));
      waits(waited, 1, 0, 0, 0, 0, 1).due(1, x -> x.ofShip(1, 6)).due(0, x -> x.many(8));
    }
    Scene empty = PORT_FAR_OFF.with(x -> x.breaker(7, 2), x -> x.ship(7, 1, 9, 0), x -> x.lead(0, 0)).steer(0, 8);
    waits(empty.calm(24), 0, 0, 0, 0, 0, 24).due(24, x -> x.ofBreaker(0, 5));
    Scene went = PORT_FAR_OFF.with(x -> x.breaker(7, 99), x -> x.ship(7, 1, 9, 0), x -> x.lead(0, 0)).steer(0, 8)
        .calm(1);
    waits(went.calm(2).due(LED, x -> x.ofShip(0, 4)), 0, 0, 0, 0, 0, 2);
    Scene back = went.calm(1).with(x -> x.ship(7, 1, 9, 0)).steer(0, 7).calm(1).with(x -> x.lead(0, 1)).calm(1);
    waits(back.due(LED, x -> x.ofShip(1, 4)), 1, 1, 0, 0, 0, 1);
  }

  private static void arrivesWithoutAWait() {
    Due.sentence("section 3: ARRIVED (without a BREAKER and a ROUTE from then on, and without a WAIT in this HOUR)");
    Scene port = Scene.of(x -> x.port(1), x -> x.land(6), x -> x.ice(0, 300));
    Scene[] there = {
      port.with(x -> x.ship(1, 1, 1, 0)),
      port.with(x -> x.ship(1, 1, 1, 0)).sail(0, 9, 8),
      port.with(x -> x.ship(1, 1, 1, 0)).sail(0, 6),
      port.with(x -> x.ship(1, 1, 1, 0)).sail(0, 0, 1),
      port.with(x -> x.ship(1, 0, 9, 0), x -> x.ice(0, 50)).sail(0, 0, 1),
      port.with(x -> x.breaker(1, 0), x -> x.ship(1, 1, 1, 0), x -> x.tow(0, 0)),
      port.with(x -> x.ship(2, 1, 1, 0)).sail(0, 1, 2, 3),
    };
    for (Scene scene : there) {
      Scene arrived = scene.calm(1).due(ARRIVED, x -> x.ofShip(0, 4)).due(1, x -> x.ofShip(0, 9))
          .due(1, x -> x.ofShip(0, 0));
      waits(arrived, 0, 0, 0, 0, 0, 0).due(0, x -> x.ofShip(0, 6)).due(NONE, x -> x.ofShip(0, 5));
      waits(arrived.calm(24), 0, 0, 0, 0, 0, 0).due(1, x -> x.ofShip(0, 9)).due(1, x -> x.ofShip(0, 0));
    }
    Scene away = port.with(x -> x.ship(1, 1, 1, 0)).sail(0, 2).calm(1);
    away.due(FREE, x -> x.ofShip(0, 4)).due(NONE, x -> x.ofShip(0, 9)).due(2, x -> x.ofShip(0, 0));
  }

  private static void arrivesByTheRulesHour() {
    Due.sentence("section 3: if the RULE lets it in this HOUR");
    for (int gone : Scene.numbers(22, 24)) {
      Scene ship = Scene.of(x -> x.port(1), x -> x.rule(0, 4, 24)).calm(gone).with(x -> x.ship(1, 3, 1, 0)).calm(1);
      ship.due(gone + 1 < 24 ? ARRIVED : FREE, x -> x.ofShip(0, 4));
      waits(ship, 0, 0, 0, 0, gone + 1 < 24 ? 0 : 1, 0);
    }
    Scene lifted = Scene.of(x -> x.port(1), x -> x.rule(0, 4, 24), x -> x.rule(0, 0, 30)).calm(24);
    lifted = lifted.with(x -> x.ship(1, 3, 1, 0));
    waits(lifted.calm(5).due(FREE, x -> x.ofShip(0, 4)), 0, 0, 0, 0, 5, 0);
    waits(lifted.calm(6).due(30, x -> x.ofShip(0, 9)), 0, 0, 0, 0, 5, 0);
  }

  private static void arrivesByClass() {
    Due.sentence("section 4: It lets a SHIP in whose CLASS is no less");
    for (int least : Scene.numbers(0, 4)) {
      Scene port = Scene.of(x -> x.port(1), x -> x.rule(0, least, 24)).calm(24);
      for (int rank : Scene.numbers(0, 4)) {
        Scene ship = port.with(x -> x.ship(1, rank, 1, 0));
        ship.due(rank >= least ? 1 : 0, x -> x.pass(0, NONE, 1)).due(rank >= least ? 25 : NONE, x -> x.ofShip(0, 9));
      }
    }
  }

  private static void arrivesExempt() {
    Due.sentence("section 4: or that is EXEMPT there");
    Scene two = RULED.with(x -> x.port(7)).times(2, x -> x.ship(1, 0, 1, 0));
    Scene first = two.with(x -> Scene.bit(x.exempt(0, 0))).calm(1);
    first.due(ARRIVED, x -> x.ofShip(0, 4)).due(FREE, x -> x.ofShip(1, 4));
    Scene second = two.with(x -> Scene.bit(x.exempt(0, 1))).calm(1);
    second.due(FREE, x -> x.ofShip(0, 4)).due(ARRIVED, x -> x.ofShip(1, 4));
    Scene elsewhere = two.with(x -> Scene.bit(x.exempt(1, 0))).calm(1);
    elsewhere.due(FREE, x -> x.ofShip(0, 4)).due(2, x -> x.inForce(0, 25));
  }

  private static void arrivesBound() {
    Due.sentence("section 3: If it is then in the CELL of its PORT, LED or TOWED, too");
    Scene port = Scene.of(x -> x.port(1), x -> x.breaker(0, 99)).times(3, x -> x.ship(0, 1, 9, 0));
    Scene bound = port.with(x -> x.lead(0, 0), x -> x.lead(0, 1), x -> x.tow(0, 2)).steer(0, 1);
    Scene gone = bound.due(3, x -> x.pass(0, NONE, 1)).due(17, x -> x.many(8)).due(0, x -> x.many(7));
    gone.due(0, x -> x.ofBreaker(0, 3)).due(NONE, x -> x.ofBreaker(0, 4)).due(NONE, x -> x.ofShip(2, 5));
    Scene kept = RULED.with(x -> x.breaker(0, 99), x -> x.ship(0, 1, 9, 0), x -> x.lead(0, 0)).steer(0, 1, 2).calm(1);
    waits(kept.due(LED, x -> x.ofShip(0, 4)).due(4, x -> x.ofShip(0, 8)), 0, 0, 0, 0, 1, 0);
    waits(kept.calm(1).due(2, x -> x.ofShip(0, 0)).due(8, x -> x.ofShip(0, 8)), 0, 0, 0, 0, 1, 0);
  }

  private static void arrivesInItsOwnPort() {
    Due.sentence("section 3: the CELL of its PORT, no other one");
    Scene ports = Scene.of(x -> x.port(1), x -> x.port(7), x -> x.port(13)).with(x -> x.rule(0, 4, 24)).calm(24);
    for (int port : Scene.numbers(0, 2)) {
      for (int cell : new int[] {1, 7, 13, 6}) {
        boolean there = cell == 1 + 6 * port;
        Scene ship = ports.with(x -> x.ship(cell, 3, 1, port)).calm(1);
        ship.due(there && port != 0 ? ARRIVED : FREE, x -> x.ofShip(0, 4));
        waits(ship, 0, there ? 0 : 1, 0, 0, there && port == 0 ? 1 : 0, 0);
      }
    }
  }

  private static void waitsByTheRule() {
    Due.sentence("section 3: otherwise it WAITS by 3 in this HOUR");
    Scene ship = RULED.with(x -> x.ship(1, 1, 1, 0));
    for (int hours : new int[] {1, 2, 24}) {
      waits(ship.calm(hours), 0, 0, 0, 0, hours, 0).due(FREE, x -> x.ofShip(0, 4)).due(hours, x -> x.many(7));
    }
  }

  private static void waitsByTheRuleInPlace() {
    Due.sentence("section 3: in place of anything else, whether it went or not");
    Scene port = RULED.with(x -> x.land(6), x -> x.ice(0, 300));
    Scene[] scenes = {
      port.with(x -> x.ship(2, 1, 1, 0)).sail(0, 1),
      port.with(x -> x.ship(1, 1, 1, 0)),
      port.with(x -> x.ship(1, 1, 1, 0)).sail(0, 6),
      port.with(x -> x.ship(1, 1, 1, 0)).sail(0, 14),
      port.with(x -> x.ship(1, 1, 1, 0)).sail(0, 0),
      port.with(x -> x.ship(1, 1, 9, 0), x -> x.ice(0, 90)).sail(0, 0),
      port.with(x -> x.breaker(1, 0), x -> x.ship(1, 1, 1, 0), x -> x.lead(0, 0)),
      port.with(x -> x.breaker(1, 99), x -> x.ship(1, 1, 1, 0), x -> x.ice(2, 44), x -> x.tow(0, 0)).steer(0, 0),
      port.with(x -> x.breaker(2, 99), x -> x.ship(2, 1, 1, 0), x -> x.tow(0, 0)).steer(0, 1),
      port.with(x -> x.ship(2, 1, 1, 0)).sail(0, 1, 2, 3),
      port.with(x -> x.breaker(1, 0), x -> x.ship(1, 1, 1, 0), x -> x.lead(0, 0)).sail(0, 2),
    };
    int[] routes = {0, 0, 0, 0, 1, 1, 0, 0, 0, 2, 1};
    for (int i : Scene.numbers(0, scenes.length - 1)) {
      Scene kept = scenes[i].calm(1).due(1, x -> x.ofShip(0, 0)).due(NONE, x -> x.ofShip(0, 9));
      waits(kept, 0, 0, 0, 0, 1, 0).due(routes[i], x -> x.ofShip(0, 6));
    }
    Scene left = RULED.with(x -> x.breaker(1, 99), x -> x.ship(1, 1, 1, 0), x -> x.ice(2, 44), x -> x.lead(0, 0));
    waits(left.steer(0, 2).calm(1).due(FREE, x -> x.ofShip(0, 4)), 0, 0, 0, 0, 1, 0);
    waits(RULED.with(x -> x.ship(1, 1, 1, 0)).sail(0, 2).calm(1).due(2, x -> x.ofShip(0, 0)), 0, 0, 0, 0, 0, 0);
  }

  private static void damageByPress() {
    Due.sentence("section 3: A SHIP that WAITS in a CELL with a PRESS of 6 or more has 1 of DAMAGE more");
    for (int press : new int[] {0, 5, 6, 7, 30}) {
      Scene one = sea(press, press).with(x -> x.ship(1, 1, 9, 0)).with(EAST_HOUR).due(press, x -> x.ofCell(1, 1));
      one.due(press >= 6 ? 1 : 0, x -> x.ofShip(0, 7)).due(press >= 6 ? 1 : 0, x -> x.many(10));
      Scene two = one.with(x -> x.ice(0, 10 * press), EAST_HOUR).due(press >= 6 ? 2 : 0, x -> x.ofShip(0, 7));
      two.calm(3).due(press >= 6 ? 2 : 0, x -> x.ofShip(0, 7)).due(5, x -> x.ofShip(0, 10));
    }
  }

  private static void damageByEachReason() {
    Due.sentence("section 3: DAMAGE, whatever it WAITS by");
    for (int press : Scene.numbers(5, 7)) {
      Scene sea = sea(press, press);
      Scene ruled = RULED.land(2).with(x -> x.ice(0, 10 * press), x -> x.ice(1, 0), x -> x.ship(1, 0, 9, 0));
      Scene[] byReason = {
        sea.with(x -> x.ship(1, 0, 9, 0)).sail(0, 2),
        sea.with(x -> x.ship(1, 4, 1, 0)).sail(0, 0),
        sea.with(x -> x.ship(1, 0, 9, 0)).sail(0, 0),
        ruled,
        sea.with(x -> x.breaker(1, 0), x -> x.ship(1, 1, 9, 0), x -> x.lead(0, 0)),
      };
      for (int reason : Scene.numbers(0, 4)) {
        Scene gone = byReason[reason].with(EAST_HOUR).due(1, x -> x.ofShip(0, 10 + reason)).due(1, x -> x.many(7));
        gone.due(press >= 6 ? 1 : 0, x -> x.ofShip(0, 7));
      }
      Scene left = sea.with(x -> x.breaker(1, 99), x -> x.ship(1, 1, 9, 0), x -> x.ice(6, 138), x -> x.tow(0, 0));
      left = left.steer(0, 6).with(EAST_HOUR).due(1, x -> x.ofShip(0, 12)).due(FREE, x -> x.ofShip(0, 4));
      left.due(press >= 6 ? 1 : 0, x -> x.ofShip(0, 7));
    }
  }

  private static void damageWhereItWent() {
    Due.sentence("section 3: DAMAGE only for one that WAITS, in the CELL where it then is");
    Scene goes = sea(7, 7).with(x -> x.ship(1, 1, 9, 0), x -> x.ship(0, 4, 9, 0)).sail(0, 6).sail(1, 1).with(EAST_HOUR);
    goes.due(6, x -> x.ofShip(0, 0)).due(1, x -> x.ofShip(1, 0)).due(0, x -> x.many(10)).due(0, x -> x.many(7));
    Scene behind = sea(7, 7).with(x -> x.breaker(0, 99)).times(2, x -> x.ship(0, 3, 9, 0));
    behind = behind.with(x -> x.lead(0, 0), x -> x.tow(0, 1)).steer(0, 1).with(EAST_HOUR).due(13, x -> x.many(8));
    behind.due(7, x -> x.ofCell(1, 1)).due(2, x -> x.ofCell(1, 5)).due(0, x -> x.many(10)).due(0, x -> x.many(7));
    Scene into = Scene.of(x -> x.port(1), x -> x.rule(0, 4, 24)).calm(24).land(2).with(x -> x.ship(6, 3, 9, 0));
    into = into.sail(0, 1).with(x -> x.ice(0, 60), EAST_HOUR).due(1, x -> x.ofShip(0, 0));
    into.due(1, x -> x.ofShip(0, 13)).due(1, x -> x.ofShip(0, 7));
    Scene arrives = Scene.of(x -> x.port(1), x -> x.ship(1, 0, 1, 0), x -> x.ice(0, 300)).land(2).with(EAST_HOUR);
    arrives.due(ARRIVED, x -> x.ofShip(0, 4)).due(0, x -> x.ofShip(0, 7));
    arrives.with(x -> x.ice(0, 300), EAST_HOUR).due(0, x -> x.ofShip(0, 7));
  }

  private static void inForceByHour() {
    Due.sentence("section 4: from an HOUR on");
    Scene one = PORT_FAR_OFF.with(x -> x.rule(0, 3, 50));
    int[] hours = {0, 1, 49, 50, 51, Scene.MOST_INT};
    for (int hour : hours) {
      one.due(hour >= 50 ? 3 : 0, x -> x.inForce(0, hour));
      one.calm(60).due(hour >= 50 ? 3 : 0, x -> x.inForce(0, hour));
      PORT_FAR_OFF.due(0, x -> x.inForce(0, hour));
    }
  }

  private static void inForceToldLast() {
    Due.sentence("section 4: the one told last of those that are from no later HOUR");
    Scene same = PORT_FAR_OFF.with(x -> x.rule(0, 3, 50), x -> x.rule(0, 1, 50));
    same.due(0, x -> x.inForce(0, 49)).due(1, x -> x.inForce(0, 50)).due(1, x -> x.inForce(0, 51));
    Scene earlier = PORT_FAR_OFF.with(x -> x.rule(0, 3, 50), x -> x.rule(0, 1, 40));
    earlier.due(0, x -> x.inForce(0, 39)).due(1, x -> x.inForce(0, 40)).due(1, x -> x.inForce(0, 50));
    Scene later = PORT_FAR_OFF.with(x -> x.rule(0, 3, 50), x -> x.rule(0, 1, 60));
    later.due(3, x -> x.inForce(0, 59)).due(1, x -> x.inForce(0, 60)).due(0, x -> x.inForce(0, 49));
    Scene back = PORT_FAR_OFF.with(x -> x.rule(0, 3, 50), x -> x.rule(0, 0, 50)).due(0, x -> x.inForce(0, 50));
    back.with(x -> x.rule(0, 4, 51)).due(0, x -> x.inForce(0, 50)).due(4, x -> x.inForce(0, 51));
    Scene ten = PORT_FAR_OFF.times(9, x -> x.rule(0, 1, 30)).with(x -> x.rule(0, 4, 30)).due(4, x -> x.inForce(0, 30));
    ten.due(0, x -> x.inForce(0, 29));
  }
}
