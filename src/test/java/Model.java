import java.util.ArrayList;
import java.util.List;

/**
 * A second ChannelWinter, written from the document alone, sentence by sentence and in no hurry: it
 * looks at whole sets of CELLS where the class searches, and keeps all that was told. An answer is
 * a number, or an exception's name.
 */
final class Model {
  private static final int NONE = -1;
  private static final String INDEX = "IndexOutOfBoundsException";
  private static final String ARGUMENT = "IllegalArgumentException";
  private static final String STATE = "IllegalStateException";
  private static final List<Integer> BEARS = List.of(10, 30, 50, 80, 120);

  private static final class Breaker {
    int cell;
    int fuel;
    int stuck;
    /** NONE unless it went in this HOUR. */
    int wentFrom = NONE;
    List<Integer> route = new ArrayList<>();
  }

  private static final class Ship {
    int cell;
    int rank;
    int power;
    int port;
    int damage;
    int dues;
    int arrived = NONE;
    int ledBy = NONE;
    int towedBy = NONE;
    int[] waits = new int[5];
    List<Integer> route = new ArrayList<>();

    int bears() {
      return BEARS.get(rank);
    }

    boolean hasArrived() {
      return arrived != NONE;
    }

    boolean isFree() {
      return ledBy == NONE && towedBy == NONE && !hasArrived();
    }

    int breaker() {
      return Math.max(ledBy, towedBy);
    }

    void free() {
      ledBy = NONE;
      towedBy = NONE;
    }

    int allWaits() {
      return waits[0] + waits[1] + waits[2] + waits[3] + waits[4];
    }
  }

  private record Rule(int least, int from) {
  }

  private static final class Port {
    final int cell;
    final List<Rule> rules = new ArrayList<>();
    final List<Integer> exempt = new ArrayList<>();

    Port(int cell) {
      this.cell = cell;
    }

    int inForce(int hour) {
      for (int i = rules.size() - 1; i >= 0; i--) {
        if (rules.get(i).from <= hour) {
          return rules.get(i).least;
        }
      }
      return 0;
    }
  }

  private int now;
  private int frozen;
  private int[] ice = new int[15];
  private int[] press = new int[15];
  private int[] channel = new int[15];
  private boolean[] land = new boolean[15];
  private final List<Breaker> breakers = new ArrayList<>();
  private final List<Ship> ships = new ArrayList<>();
  private final List<Port> ports = new ArrayList<>();

  // ---- what is told

  String ice(int cell, int told) {
    if (!isCell(cell)) {
      return INDEX;
    }
    if (told < 0 || told > 300) {
      return ARGUMENT;
    }
    if (land[cell]) {
      return STATE;
    }
    int before = ice[cell];
    ice[cell] = told;
    return "" + before;
  }

  String land(int cell) {
    if (!isCell(cell)) {
      return INDEX;
    }
    if (land[cell] || shipsIn(cell) > 0 || portIn(cell)) {
      return STATE;
    }
    for (Breaker breaker : breakers) {
      if (breaker.cell == cell) {
        return STATE;
      }
    }
    int before = ice[cell];
    land[cell] = true;
    ice[cell] = 0;
    press[cell] = 0;
    channel[cell] = 0;
    return "" + before;
  }

  String port(int cell) {
    if (!isCell(cell)) {
      return INDEX;
    }
    if (land[cell] || portIn(cell)) {
      return ARGUMENT;
    }
    if (ports.size() == 3) {
      return STATE;
    }
    ports.add(new Port(cell));
    return "" + (ports.size() - 1);
  }

  String rule(int port, int least, int later) {
    if (!isOf(port, ports)) {
      return INDEX;
    }
    if (least < 0 || least > 4 || later < 24 || later > 200) {
      return ARGUMENT;
    }
    if (ports.get(port).rules.size() == 10) {
      return STATE;
    }
    ports.get(port).rules.add(new Rule(least, now + later));
    return "" + (now + later);
  }

  String exempt(int port, int ship) {
    if (!isOf(port, ports) || !isOf(ship, ships)) {
      return INDEX;
    }
    boolean was = ports.get(port).exempt.contains(ship);
    ports.get(port).exempt.add(ship);
    return was ? "1" : "0";
  }

  String breaker(int cell, int fuel) {
    if (!isCell(cell)) {
      return INDEX;
    }
    if (land[cell] || fuel < 0 || fuel > 999) {
      return ARGUMENT;
    }
    if (breakers.size() == 2) {
      return STATE;
    }
    Breaker breaker = new Breaker();
    breaker.cell = cell;
    breaker.fuel = fuel;
    breakers.add(breaker);
    return "" + (breakers.size() - 1);
  }

  String ship(int cell, int rank, int power, int port) {
    if (!isCell(cell) || !isOf(port, ports)) {
      return INDEX;
    }
    if (land[cell] || rank < 0 || rank > 4 || power < 1 || power > 9) {
      return ARGUMENT;
    }
    if (ships.size() == 5) {
      return STATE;
    }
    Ship ship = new Ship();
    ship.cell = cell;
    ship.rank = rank;
    ship.power = power;
    ship.port = port;
    ships.add(ship);
    return "" + (ships.size() - 1);
  }

  // ---- what is done

  String steer(int breaker, int cell) {
    if (!isOf(breaker, breakers) || !isCell(cell)) {
      return INDEX;
    }
    List<Integer> route = breakers.get(breaker).route;
    if (route.size() == 8) {
      return STATE;
    }
    route.add(cell);
    return "" + route.size();
  }

  String sail(int ship, int cell) {
    if (!isOf(ship, ships) || !isCell(cell)) {
      return INDEX;
    }
    List<Integer> route = ships.get(ship).route;
    if (route.size() == 8 || ships.get(ship).hasArrived()) {
      return STATE;
    }
    route.add(cell);
    return "" + route.size();
  }

  String halt(int ship) {
    if (!isOf(ship, ships)) {
      return INDEX;
    }
    int had = ships.get(ship).route.size();
    ships.get(ship).route.clear();
    ships.get(ship).free();
    return "" + had;
  }

  String lead(int breaker, int ship) {
    if (!isOf(breaker, breakers) || !isOf(ship, ships)) {
      return INDEX;
    }
    Ship led = ships.get(ship);
    if (led.hasArrived() || led.cell != breakers.get(breaker).cell || led(breaker) == 2
        || led.ledBy == breaker) {
      return STATE;
    }
    led.free();
    led.ledBy = breaker;
    return "" + led(breaker);
  }

  String tow(int breaker, int ship) {
    if (!isOf(breaker, breakers) || !isOf(ship, ships)) {
      return INDEX;
    }
    Ship towed = ships.get(ship);
    if (towed.hasArrived() || towed.cell != breakers.get(breaker).cell || towed.rank == 0
        || towed(breaker) != NONE) {
      return STATE;
    }
    towed.free();
    towed.towedBy = breaker;
    return "" + towed.bears();
  }

  String fuel(int breaker, int fuel) {
    if (!isOf(breaker, breakers)) {
      return INDEX;
    }
    if (fuel < 1 || fuel > 500) {
      return ARGUMENT;
    }
    Breaker fuelled = breakers.get(breaker);
    if (!portIn(fuelled.cell)) {
      return STATE;
    }
    fuelled.fuel += fuel;
    if (fuelled.fuel > 999) {
      fuelled.fuel = 999;
    }
    return "" + fuelled.fuel;
  }

  String pass(int cold, int wind, int hours) {
    if (cold < 0 || cold > 9 || wind < NONE || wind > 3 || hours < 1 || hours > 24) {
      return ARGUMENT;
    }
    int before = arrived();
    for (int hour = 0; hour < hours; hour++) {
      hour(cold, wind);
    }
    return "" + (arrived() - before);
  }

  // ---- what one asks

  String ofCell(int cell, int what) {
    if (!isCell(cell)) {
      return INDEX;
    }
    if (what < 0 || what > 5) {
      return ARGUMENT;
    }
    return "" + List.of(ice[cell], press[cell], channel[cell], land[cell] ? 1 : 0,
        worth(cell, channel[cell] > 0), shipsIn(cell)).get(what);
  }

  String ofBreaker(int breaker, int what) {
    if (!isOf(breaker, breakers)) {
      return INDEX;
    }
    if (what < 0 || what > 5) {
      return ARGUMENT;
    }
    Breaker asked = breakers.get(breaker);
    return "" + List.of(asked.cell, asked.fuel, asked.route.size(), led(breaker), towed(breaker),
        asked.stuck).get(what);
  }

  String ofShip(int ship, int what) {
    if (!isOf(ship, ships)) {
      return INDEX;
    }
    if (what < 0 || what > 14) {
      return ARGUMENT;
    }
    Ship asked = ships.get(ship);
    if (what >= 10) {
      return "" + asked.waits[what - 10];
    }
    int how = asked.hasArrived() ? 3 : asked.towedBy != NONE ? 2 : asked.ledBy != NONE ? 1 : 0;
    return "" + List.of(asked.cell, asked.rank, asked.power, asked.port, how, asked.breaker(),
        asked.route.size(), asked.damage, asked.dues, asked.arrived).get(what);
  }

  String inForce(int port, int hour) {
    if (!isOf(port, ports)) {
      return INDEX;
    }
    return hour < 0 ? ARGUMENT : "" + ports.get(port).inForce(hour);
  }

  String many(int what) {
    if (what < 0 || what > 10) {
      return ARGUMENT;
    }
    int channels = 0;
    for (int hours : channel) {
      channels += Math.min(hours, 1);
    }
    int waits = 0;
    int dues = 0;
    int damage = 0;
    for (Ship ship : ships) {
      waits += ship.allWaits();
      dues += ship.dues;
      damage += ship.damage;
    }
    return "" + new int[] {now, allIce(), channels, ships.size(), arrived(), breakers.size(),
        ports.size(), waits, dues, frozen, damage}[what];
  }

  String meanIce() {
    int cells = 0;
    for (int cell = 0; cell < 15; cell++) {
      cells += land[cell] ? 0 : 1;
    }
    return "" + (cells == 0 ? 0.0 : allIce() * 1.0 / cells);
  }

  // ---- what would be

  String way(int ship, int cell) {
    if (!isOf(ship, ships) || !isCell(cell)) {
      return INDEX;
    }
    return "" + way(ships.get(ship), cell, channels());
  }

  String toBreak(int ship) {
    return !isOf(ship, ships) ? INDEX : "" + toBreak(ships.get(ship));
  }

  String helpNext(int breaker) {
    if (!isOf(breaker, breakers)) {
      return INDEX;
    }
    int at = breakers.get(breaker).cell;
    int best = NONE;
    int least = Integer.MAX_VALUE;
    for (int number = ships.size() - 1; number >= 0; number--) {
      Ship ship = ships.get(number);
      int between = Math.abs(at / 5 - ship.cell / 5) + Math.abs(at % 5 - ship.cell % 5);
      int far = between - ship.allWaits() / 6;
      if (ship.isFree() && toBreak(ship) >= 1 && far <= least) {
        least = far;
        best = number;
      }
    }
    return "" + best;
  }

  String arriveIn(int ship, int hours, int cold, int wind) {
    if (!isOf(ship, ships)) {
      return INDEX;
    }
    if (hours < 1 || hours > 24 || cold < 0 || cold > 9 || wind < NONE || wind > 3) {
      return ARGUMENT;
    }
    if (ships.get(ship).hasArrived()) {
      return "0";
    }
    Model gone = copy();
    for (int hour = 1; hour <= hours; hour++) {
      gone.pass(cold, wind, 1);
    }
    int arrived = gone.ships.get(ship).arrived;
    return "" + (arrived == NONE ? NONE : arrived - now);
  }

  String digest() {
    List<String> values = new ArrayList<>();
    for (int what = 0; what <= 10; what++) {
      values.add(many(what));
    }
    for (int i = 0; i < 15 * 6; i++) {
      values.add(ofCell(i / 6, i % 6));
    }
    for (int breaker = 0; breaker < breakers.size(); breaker++) {
      for (int what = 0; what <= 5; what++) {
        values.add(ofBreaker(breaker, what));
      }
      values.add(helpNext(breaker));
    }
    for (int ship = 0; ship < ships.size(); ship++) {
      for (int what = 0; what <= 14; what++) {
        values.add(ofShip(ship, what));
      }
      values.add(way(ship, ports.get(ships.get(ship).port).cell));
      values.add(toBreak(ship));
      values.add(arriveIn(ship, 6, 1, NONE));
    }
    for (int port = 0; port < ports.size(); port++) {
      values.add(inForce(port, now));
      values.add(inForce(port, 100));
    }
    long d = 4802;
    for (String v : values) {
      d = d * 31 + Integer.parseInt(v);
    }
    return "" + d;
  }

  // ---- HOURS

  private void hour(int cold, int wind) {
    now++;
    drift(wind);
    for (int cell = 0; cell < 15; cell++) {
      int ahead = ice[cell];
      if (!land[cell]) {
        ice[cell] = Math.max(ahead, Math.min(300, ahead + cold));
      }
      frozen += ice[cell] - ahead;
      channel[cell] -= press[cell] >= 3 ? 3 : 1;
      channel[cell] = Math.max(0, channel[cell]);
    }
    for (Breaker breaker : breakers) {
      go(breaker);
    }
    for (int ship = 0; ship < ships.size(); ship++) {
      if (!ships.get(ship).hasArrived()) {
        hourOf(ship);
      }
    }
  }

  private void drift(int wind) {
    int[] got = new int[15];
    int[] gave = new int[15];
    for (int cell = 0; cell < 15; cell++) {
      for (int other = 0; other < 15; other++) {
        if (directionTo(cell, other) == wind && wind != NONE && !land[other]) {
          gave[cell] += ice[cell] / 10;
          got[other] += ice[cell] / 10;
        }
      }
    }
    for (int cell = 0; cell < 15; cell++) {
      ice[cell] += got[cell] - gave[cell];
      press[cell] = Math.max(0, got[cell] - gave[cell]);
    }
  }

  private void go(Breaker breaker) {
    breaker.wentFrom = NONE;
    if (breaker.route.isEmpty()) {
      return;
    }
    int next = breaker.route.get(0);
    if (directionTo(breaker.cell, next) == NONE || land[next]) {
      breaker.route.clear();
      return;
    }
    int costs = 3 + ice[next] / 30;
    if (ice[next] + 5 * press[next] <= 150 && breaker.fuel >= costs) {
      breaker.fuel -= costs;
      breaker.route.remove(0);
      breaker.wentFrom = breaker.cell;
      breaker.cell = next;
      channel[next] = 12;
    } else {
      breaker.stuck++;
    }
  }

  private void hourOf(int number) {
    Ship ship = ships.get(number);
    int wait = waitOf(ship);
    Port port = ports.get(ship.port);
    if (ship.cell == port.cell) {
      if (ship.rank >= port.inForce(now) || port.exempt.contains(number)) {
        ship.arrived = now;
        ship.free();
        ship.route.clear();
        return;
      }
      wait = 3;
    }
    if (wait != NONE) {
      ship.waits[wait]++;
      ship.damage += press[ship.cell] >= 6 ? 1 : 0;
    }
  }

  /** NONE if it goes. */
  private int waitOf(Ship ship) {
    if (!ship.isFree()) {
      Breaker breaker = breakers.get(ship.breaker());
      if (breaker.wentFrom == ship.cell) {
        return waitBehind(ship, breaker.cell);
      }
      if (breaker.wentFrom == NONE && breaker.cell == ship.cell) {
        return 4;
      }
      ship.free();
    }
    if (ship.route.isEmpty()) {
      return 0;
    }
    int next = ship.route.get(0);
    if (directionTo(ship.cell, next) == NONE || land[next]) {
      ship.route.clear();
      return 0;
    }
    int worth = worth(next, channel[next] > 0);
    if (worth > 10 * ship.power || worth > ship.bears()) {
      return worth > 10 * ship.power ? 1 : 2;
    }
    ship.cell = next;
    ship.route.remove(0);
    return NONE;
  }

  private int waitBehind(Ship ship, int next) {
    int worth = worth(next, channel[next] > 0);
    boolean led = ship.ledBy != NONE;
    if (led && worth > 10 * ship.power) {
      ship.free();
      return 1;
    }
    if (worth > ship.bears()) {
      ship.free();
      return 2;
    }
    ship.cell = next;
    ship.route.clear();
    ship.dues += led ? 4 : 9;
    return NONE;
  }

  // ---- how things lie

  private static boolean isCell(int cell) {
    return cell >= 0 && cell <= 14;
  }

  private static boolean isOf(int number, List<?> all) {
    return number >= 0 && number < all.size();
  }

  /** NONE if the other is no NEIGHBOUR. */
  private static int directionTo(int cell, int other) {
    if (!isCell(other)) {
      return NONE;
    }
    int rows = other / 5 - cell / 5;
    int columns = other % 5 - cell % 5;
    if (columns == 0 && (rows == 1 || rows == -1)) {
      return rows == -1 ? 0 : 2;
    }
    if (rows == 0 && (columns == 1 || columns == -1)) {
      return columns == 1 ? 1 : 3;
    }
    return NONE;
  }

  private int worth(int cell, boolean inChannel) {
    return (inChannel ? ice[cell] / 4 : ice[cell]) + 5 * press[cell];
  }

  private int shipsIn(int cell) {
    int count = 0;
    for (Ship ship : ships) {
      count += ship.cell == cell && !ship.hasArrived() ? 1 : 0;
    }
    return count;
  }

  private boolean portIn(int cell) {
    for (Port port : ports) {
      if (port.cell == cell) {
        return true;
      }
    }
    return false;
  }

  private int led(int breaker) {
    int count = 0;
    for (Ship ship : ships) {
      count += ship.ledBy == breaker ? 1 : 0;
    }
    return count;
  }

  private int towed(int breaker) {
    for (Ship ship : ships) {
      if (ship.towedBy == breaker) {
        return ships.indexOf(ship);
      }
    }
    return NONE;
  }

  private int arrived() {
    int count = 0;
    for (Ship ship : ships) {
      count += ship.hasArrived() ? 1 : 0;
    }
    return count;
  }

  private int allIce() {
    int sum = 0;
    for (int some : ice) {
      sum += some;
    }
    return sum;
  }

  // ---- ways, over sets of CELLS: bit 0 is CELL 0

  private int channels() {
    int cells = 0;
    for (int cell = 0; cell < 15; cell++) {
      cells |= channel[cell] > 0 ? 1 << cell : 0;
    }
    return cells;
  }

  private int entered(Ship ship, int channels) {
    int most = Math.min(ship.bears(), 10 * ship.power);
    int cells = 0;
    for (int cell = 0; cell < 15; cell++) {
      boolean can = !land[cell] && worth(cell, (channels >> cell & 1) == 1) <= most;
      cells |= can ? 1 << cell : 0;
    }
    return cells;
  }

  private int way(Ship ship, int cell, int channels) {
    int open = entered(ship, channels);
    int reached = 1 << ship.cell;
    for (int cells = 0; cells < 15; cells++) {
      if ((reached >> cell & 1) == 1) {
        return cells;
      }
      reached |= besides(reached) & open;
    }
    return NONE;
  }

  private static int besides(int cells) {
    int leftColumn = 1 | 1 << 5 | 1 << 10;
    int rightColumn = leftColumn << 4;
    return cells >> 5 | cells << 5 | (cells & ~rightColumn) << 1 | (cells & ~leftColumn) >> 1;
  }

  /** Tries each set of CELLS that could be broken; a CHANNEL where it goes already is one too many. */
  private int toBreak(Ship ship) {
    int to = ports.get(ship.port).cell;
    int all = (1 << 15) - 1;
    if (way(ship, to, all) == NONE) {
      return NONE;
    }
    int closed = entered(ship, all) & ~entered(ship, channels());
    int best = 15;
    int broken = 0;
    do {
      if (Integer.bitCount(broken) < best && way(ship, to, broken | channels()) != NONE) {
        best = Integer.bitCount(broken);
      }
      broken = broken - closed & closed;
    } while (broken != 0);
    return best;
  }

  private Model copy() {
    Model copy = new Model();
    copy.now = now;
    copy.frozen = frozen;
    copy.ice = ice.clone();
    copy.press = press.clone();
    copy.channel = channel.clone();
    copy.land = land.clone();
    for (Breaker breaker : breakers) {
      Breaker other = new Breaker();
      other.cell = breaker.cell;
      other.fuel = breaker.fuel;
      other.stuck = breaker.stuck;
      other.route = new ArrayList<>(breaker.route);
      copy.breakers.add(other);
    }
    for (Ship ship : ships) {
      Ship other = new Ship();
      other.cell = ship.cell;
      other.rank = ship.rank;
      other.power = ship.power;
      other.port = ship.port;
      other.damage = ship.damage;
      other.dues = ship.dues;
      other.arrived = ship.arrived;
      other.ledBy = ship.ledBy;
      other.towedBy = ship.towedBy;
      other.waits = ship.waits.clone();
      other.route = new ArrayList<>(ship.route);
      copy.ships.add(other);
    }
    copy.ports.addAll(ports);
    return copy;
  }
}
