import java.util.ArrayList;
import java.util.Arrays;
import java.util.List;

/** Drawn runs of calls (always the same ones), each answer against that of the Model: up to the 512th call. */
public final class ModelTest {
  private static final int NONE = -1;
  private static final int RUNS = 1000;
  private static final int MOST_CALLS = 512;

  private enum Call {
    ICE, LAND, PORT, RULE, EXEMPT, BREAKER, SHIP,
    STEER, SAIL, HALT, LEAD, TOW, FUEL, PASS,
    OF_CELL, OF_BREAKER, OF_SHIP, IN_FORCE, MANY, MEAN_ICE,
    WAY, TO_BREAK, HELP_NEXT, ARRIVE_IN, DIGEST
  }

  private long drawn;
  private int made;
  private final int mostIce;
  private final int mostCold;
  private final int windy;
  private final ChannelWinter x = new ChannelWinter();
  private final Model model = new Model();
  private final List<Integer> portCells = new ArrayList<>();
  private final List<String> calls = new ArrayList<>();
  private boolean same = true;

  private ModelTest(long seed) {
    drawn = seed * 0x9E3779B97F4A7C15L;
    mostIce = new int[] {20, 60, 120, 300}[draw(0, 3)];
    mostCold = new int[] {0, 1, 4, 9}[draw(0, 3)];
    windy = draw(0, 3);
  }

  public static void main(String[] args) {
    boolean same = true;
    for (int run = 1; same && run <= RUNS; run++) {
      same = new ModelTest(run).run();
    }
    Due.end("ModelTest");
  }

  private int draw(int least, int most) {
    drawn = drawn * 6364136223846793005L + 1442695040888963407L;
    return least + (int) ((drawn >>> 33) % (most - least + 1));
  }

  /** Returns whether each answer was the same. */
  private boolean run() {
    begin();
    while (made < MOST_CALLS && same && (isUnderWay() || draw(0, 39) > 0)) {
      if (draw(0, 2) == 0) {
        act();
      } else {
        ask();
      }
    }
    return same;
  }

  private void begin() {
    for (int some = draw(0, 14); some > 0; some--) {
      call(Call.ICE, draw(0, 14), draw(0, mostIce));
    }
    for (int some = draw(0, 3); some > 0; some--) {
      call(Call.LAND, draw(0, 14));
    }
    for (int some = draw(1, 3); some > 0; some--) {
      call(Call.PORT, draw(0, 14));
    }
    for (int some = draw(0, 3); some > 0; some--) {
      call(Call.RULE, somePort(), draw(0, 4), draw(24, 40));
    }
    if (draw(0, 1) == 0) {
      pass(24);
    }
    for (int some = draw(1, 2); some > 0; some--) {
      call(Call.BREAKER, draw(0, 14), draw(0, 400));
    }
    for (int some = draw(1, 4); some > 0; some--) {
      tellShip();
    }
  }

  /** Runs in which all is over tell little more. */
  private boolean isUnderWay() {
    return !model.many(3).equals(model.many(4));
  }

  private void tellShip() {
    int cell = draw(0, 1) == 0 ? draw(0, 14) : cellOf(model.ofBreaker(someBreaker(), 0));
    call(Call.SHIP, cell, draw(0, 4), draw(1, 9), somePort());
  }

  private void act() {
    int breaker = someBreaker();
    int ship = someShip();
    switch (draw(0, 12)) {
      case 0:
        tell();
        break;
      case 1:
        wrong();
        wrong();
        break;
      case 2:
        goFrom(cellOf(model.ofBreaker(breaker, 0)), Call.STEER, breaker, draw(0, 14));
        break;
      case 3:
      case 4:
        goFrom(cellOf(model.ofShip(ship, 0)), Call.SAIL, ship, homeOf(ship));
        break;
      case 5:
        call(draw(0, 1) == 0 ? Call.LEAD : Call.TOW, breaker, ship);
        break;
      case 6:
      case 7:
        convoy(breaker);
        break;
      case 8:
        call(Call.FUEL, breaker, draw(1, 500));
        break;
      case 9:
        call(Call.HALT, ship);
        break;
      default:
        pass(draw(0, 7) == 0 ? draw(1, 24) : draw(1, 3));
        break;
    }
  }

  private void tell() {
    switch (draw(0, 7)) {
      case 0:
      case 1:
        int port = somePort();
        for (int rules = draw(1, 6); rules > 0; rules--) {
          call(Call.RULE, port, draw(0, 4), draw(24, draw(0, 1) == 0 ? 30 : 200));
        }
        break;
      case 2:
        call(Call.EXEMPT, somePort(), someShip());
        break;
      case 3:
        call(draw(0, 1) == 0 ? Call.LAND : Call.PORT, draw(0, 14));
        break;
      case 4:
        call(Call.BREAKER, draw(0, 14), draw(0, 999));
        break;
      case 5:
        tellShip();
        break;
      default:
        call(Call.ICE, draw(0, 14), draw(0, mostIce));
        break;
    }
  }

  /** Tells some CELLS, one beside the other and most of them nearer to the end, but for a slip now and then. */
  private void goFrom(int from, Call steerOrSail, int number, int to) {
    int at = from;
    for (int cells = draw(1, 6); cells > 0 && at != to; cells--) {
      int[] nearer = {Integer.compare(to % 5, at % 5), 5 * Integer.compare(to / 5, at / 5)};
      int step = nearer[0] == 0 || nearer[1] != 0 && draw(0, 1) == 0 ? nearer[1] : nearer[0];
      int slip = draw(0, 9);
      at = slip == 0 ? draw(0, 14) : slip == 1 && isCell(at - step) ? at - step : at + step;
      call(steerOrSail, number, at);
    }
  }

  private static boolean isCell(int cell) {
    return cell >= 0 && cell <= 14;
  }

  /** The CELL of its PORT, any one for a SHIP that is not there. */
  private int homeOf(int ship) {
    String port = model.ofShip(ship, 3);
    return port.length() > 2 ? draw(0, 14) : portCells.get(Integer.parseInt(port));
  }

  /** A BREAKER takes what is in its CELL with it, to the PORT of one of these. */
  private void convoy(int breaker) {
    int at = cellOf(model.ofBreaker(breaker, 0));
    int to = draw(0, 14);
    for (int ship = 0; ship < 5; ship++) {
      if (model.ofShip(ship, 0).equals("" + at)) {
        call(draw(0, 2) > 0 ? Call.LEAD : Call.TOW, breaker, ship);
        to = homeOf(ship);
      }
    }
    goFrom(at, Call.STEER, breaker, to);
    pass(draw(1, 4));
  }

  private void pass(int hours) {
    call(Call.PASS, draw(0, mostCold), draw(0, 3) < windy ? draw(0, 3) : NONE, hours);
  }

  /** Any call: its first arguments are often taken, the others lie about the ends of what some call takes. */
  private void wrong() {
    Call any = Call.values()[draw(0, Call.values().length - 1)];
    int[] told = {drawEnd(), drawEnd(), drawEnd(), drawEnd()};
    int first = draw(0, told.length);
    for (int i = 0; i < first; i++) {
      told[i] = draw(0, 4);
    }
    call(any, told);
  }

  private int drawEnd() {
    int[] ends = {
      0, 1, -1, 4, 5, 9, 10, 15, 6, 24, 25, 3, 23, 200, 201, 300, 301, 500, 501, 999, 1000, 11, 14,
      Integer.MIN_VALUE, Integer.MAX_VALUE, -2};
    return ends[draw(0, draw(0, 2) > 0 ? 8 : ends.length - 1)];
  }

  private void ask() {
    switch (draw(0, 10)) {
      case 0:
        call(Call.OF_CELL, draw(0, 14), draw(0, 5));
        break;
      case 1:
        call(Call.OF_BREAKER, someBreaker(), draw(0, 5));
        break;
      case 2:
      case 3:
        call(Call.OF_SHIP, someShip(), draw(0, 14));
        break;
      case 4:
        call(Call.IN_FORCE, somePort(), draw(0, 300));
        break;
      case 5:
        call(draw(0, 4) > 0 ? Call.MANY : Call.MEAN_ICE, draw(0, 10));
        break;
      case 6:
        call(Call.WAY, someShip(), draw(0, 14));
        break;
      case 7:
        call(Call.TO_BREAK, someShip());
        break;
      case 8:
        call(Call.HELP_NEXT, someBreaker());
        break;
      case 9:
        call(Call.ARRIVE_IN, someShip(), draw(1, 24), draw(0, mostCold), draw(NONE, 3));
        break;
      default:
        call(Call.DIGEST);
        break;
    }
  }

  private int someBreaker() {
    return some(5);
  }

  private int someShip() {
    return some(3);
  }

  private int somePort() {
    return some(6);
  }

  /** One of those of which many() tells the count, and seldom one that is not there. */
  private int some(int what) {
    int count = Integer.parseInt(model.many(what));
    return count == 0 || draw(0, 31) == 0 ? draw(NONE, 6) : draw(0, count - 1);
  }

  /** What is not there may as well be in CELL 7. */
  private static int cellOf(String answer) {
    return answer.length() > 2 ? 7 : Integer.parseInt(answer);
  }

  private void call(Call call, int... told) {
    if (made == MOST_CALLS || !same) {
      return;
    }
    made++;
    int[] a = Arrays.copyOf(told, 4);
    String name = call + Arrays.toString(told);
    calls.add(name);
    String got = ofClass(call, a);
    String want = ofModel(call, a);
    if (call == Call.PORT && !want.endsWith("Exception")) {
      portCells.add(a[0]);
    }
    Due.is(name, got, want);
    if (!got.equals(want)) {
      same = false;
      System.out.println("that is the last of " + calls);
    }
  }

  private String ofClass(Call call, int[] a) {
    try {
      if (call == Call.DIGEST) {
        return "" + x.digest();
      }
      return call == Call.MEAN_ICE ? "" + x.meanIce() : "" + answer(call, a);
    } catch (RuntimeException e) {
      return e.getClass().getSimpleName();
    }
  }

  private int answer(Call call, int[] a) {
    return switch (call) {
      case ICE -> x.ice(a[0], a[1]);
      case LAND -> x.land(a[0]);
      case PORT -> x.port(a[0]);
      case RULE -> x.rule(a[0], a[1], a[2]);
      case EXEMPT -> x.exempt(a[0], a[1]) ? 1 : 0;
      case BREAKER -> x.breaker(a[0], a[1]);
      case SHIP -> x.ship(a[0], a[1], a[2], a[3]);
      case STEER -> x.steer(a[0], a[1]);
      case SAIL -> x.sail(a[0], a[1]);
      case HALT -> x.halt(a[0]);
      case LEAD -> x.lead(a[0], a[1]);
      case TOW -> x.tow(a[0], a[1]);
      case FUEL -> x.fuel(a[0], a[1]);
      case PASS -> x.pass(a[0], a[1], a[2]);
      case OF_CELL -> x.ofCell(a[0], a[1]);
      case OF_BREAKER -> x.ofBreaker(a[0], a[1]);
      case OF_SHIP -> x.ofShip(a[0], a[1]);
      case IN_FORCE -> x.inForce(a[0], a[1]);
      case MANY -> x.many(a[0]);
      case WAY -> x.way(a[0], a[1]);
      case TO_BREAK -> x.toBreak(a[0]);
      case HELP_NEXT -> x.helpNext(a[0]);
      case ARRIVE_IN -> x.arriveIn(a[0], a[1], a[2], a[3]);
      default -> throw new AssertionError(call);
    };
  }

  private String ofModel(Call call, int[] a) {
    return switch (call) {
      case ICE -> model.ice(a[0], a[1]);
      case LAND -> model.land(a[0]);
      case PORT -> model.port(a[0]);
      case RULE -> model.rule(a[0], a[1], a[2]);
      case EXEMPT -> model.exempt(a[0], a[1]);
      case BREAKER -> model.breaker(a[0], a[1]);
      case SHIP -> model.ship(a[0], a[1], a[2], a[3]);
      case STEER -> model.steer(a[0], a[1]);
      case SAIL -> model.sail(a[0], a[1]);
      case HALT -> model.halt(a[0]);
      case LEAD -> model.lead(a[0], a[1]);
      case TOW -> model.tow(a[0], a[1]);
      case FUEL -> model.fuel(a[0], a[1]);
      case PASS -> model.pass(a[0], a[1], a[2]);
      case OF_CELL -> model.ofCell(a[0], a[1]);
      case OF_BREAKER -> model.ofBreaker(a[0], a[1]);
      case OF_SHIP -> model.ofShip(a[0], a[1]);
      case IN_FORCE -> model.inForce(a[0], a[1]);
      case MANY -> model.many(a[0]);
      case MEAN_ICE -> model.meanIce();
      case WAY -> model.way(a[0], a[1]);
      case TO_BREAK -> model.toBreak(a[0]);
      case HELP_NEXT -> model.helpNext(a[0]);
      case ARRIVE_IN -> model.arriveIn(a[0], a[1], a[2], a[3]);
      case DIGEST -> model.digest();
    };
  }
}
