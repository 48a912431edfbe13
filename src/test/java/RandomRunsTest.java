import java.util.ArrayList;
import java.util.List;

/**
 * Long runs of calls whose arguments are drawn (always the same ones): what must hold in any of them.
 * Questions are put to twins, objects with the same history, so that none comes near its 512th call.
 */
public final class RandomRunsTest {
  private static final int NONE = -1;
  private static final int RUNS = 400;
  private static final int CALLS = 120;

  private interface Act {
    long on(ChannelWinter x);
  }

  private long drawn;
  private final List<Act> history = new ArrayList<>();
  private final int[] portCells = new int[3];
  private ChannelWinter x = new ChannelWinter();

  private RandomRunsTest(long seed) {
    drawn = seed;
  }

  public static void main(String[] args) {
    for (int run = 1; run <= RUNS; run++) {
      new RandomRunsTest(run * 7919L).run();
    }
    Due.end("RandomRunsTest");
  }

  private void run() {
    begin();
    for (int call = 0; call < CALLS; call++) {
      callOnce();
      if (call % 10 == 0) {
        arriveInAsPassDoes();
        waysAreTheFewest();
        digestIsAsTold();
      }
    }
  }

  private int draw(int least, int most) {
    drawn = drawn * 6364136223846793005L + 1442695040888963407L;
    return least + (int) ((drawn >>> 33) % (most - least + 1));
  }

  private void begin() {
    accept(y -> y.port(portCells[0] = 2));
    accept(y -> y.breaker(0, 300));
    accept(y -> y.ship(0, 2, 5, 0));
    for (int i = draw(0, 12); i > 0; i--) {
      int cell = draw(0, 14);
      int ice = draw(0, 160);
      accept(y -> y.ice(cell, ice));
    }
  }

  private void accept(Act act) {
    act.on(x);
    history.add(act);
  }

  private void callOnce() {
    Act act = drawAct();
    long before = twin().digest();
    String refused = "";
    try {
      act.on(x);
    } catch (IndexOutOfBoundsException | IllegalArgumentException | IllegalStateException e) {
      refused = e.getClass() == ArrayIndexOutOfBoundsException.class ? "machine" : "program";
    }
    Due.is("refused by the machine", refused.equals("machine") ? 1 : 0, 0);
    if (refused.isEmpty()) {
      history.add(act);
    } else {
      Due.is("digest() behind a refused call", x.digest(), before);
      x = twin();
    }
  }

  private ChannelWinter twin() {
    ChannelWinter twin = new ChannelWinter();
    for (Act act : history) {
      act.on(twin);
    }
    return twin;
  }

  private Act drawAct() {
    int cell = draw(-1, 15);
    int breaker = draw(-1, 2);
    int ship = draw(-1, 5);
    int port = draw(-1, 3);
    int some = draw(-2, 12);
    switch (draw(0, 24)) {
      case 0:
        return y -> y.ice(cell, some * 25);
      case 1:
        return y -> some == 0 ? y.land(cell) : y.ice(cell, some);
      case 2:
        return y -> {
          int number = y.port(cell);
          portCells[number] = cell;
          return number;
        };
      case 3:
        return y -> y.rule(port, some / 2, 20 + 2 * some);
      case 4:
        return y -> y.exempt(port, ship) ? 1 : 0;
      case 5:
        return y -> y.breaker(cell, some * 80);
      case 6:
      case 7:
        return y -> y.ship(cell, some / 2, breaker + 5, port);
      case 8:
      case 9:
      case 10:
        return y -> y.steer(breaker, near(y.ofBreaker(breaker, 0), some));
      case 11:
      case 12:
      case 13:
        return y -> y.sail(ship, near(y.ofShip(ship, 0), some));
      case 14:
        return y -> some < 3 ? y.halt(ship) : y.sail(ship, cell);
      case 15:
      case 16:
        return y -> y.lead(breaker, ship);
      case 17:
      case 18:
        return y -> y.tow(breaker, ship);
      case 19:
        return y -> y.fuel(breaker, some * 45);
      default:
        return y -> y.pass(some, breaker + port, Math.max(0, some / 3));
    }
  }

  private static int near(int cell, int direction) {
    int[] steps = {-5, 1, 5, -1};
    return cell + steps[direction & 3];
  }

  private void arriveInAsPassDoes() {
    ChannelWinter asked = twin();
    int ship = draw(0, asked.many(3) - 1);
    int hours = draw(1, 24);
    int cold = draw(0, 3);
    int wind = draw(NONE, 3);
    int answer = asked.arriveIn(ship, hours, cold, wind);
    int due = asked.ofShip(ship, 4) == 3 ? 0 : NONE;
    ChannelWinter gone = twin();
    for (int hour = 1; due == NONE && hour <= hours; hour++) {
      gone.pass(cold, wind, 1);
      due = gone.ofShip(ship, 9) == NONE ? NONE : hour;
    }
    Due.is("arriveIn() against pass()", answer, due);
    Due.is("digest() behind arriveIn()", asked.digest(), twin().digest());
  }

  private void waysAreTheFewest() {
    ChannelWinter asked = twin();
    ChannelWinter cells = twin();
    int ship = draw(0, asked.many(3) - 1);
    int from = asked.ofShip(ship, 0);
    int[] bears = {10, 30, 50, 80, 120};
    int most = Math.min(10 * asked.ofShip(ship, 2), bears[asked.ofShip(ship, 1)]);
    int[] going = new int[15];
    int[] breaking = new int[15];
    for (int cell = 0; cell < 15; cell++) {
      boolean land = cells.ofCell(cell, 3) == 1;
      boolean open = !land && cells.ofCell(cell, 4) <= most;
      boolean helped = !land && cells.ofCell(cell, 0) / 4 + 5 * cells.ofCell(cell, 1) <= most;
      going[cell] = open ? 1 : NONE;
      breaking[cell] = open ? 0 : helped ? 1 : NONE;
    }
    int[] ways = fewest(from, going);
    for (int cell = 0; cell < 15; cell++) {
      Due.is("way() against a search", asked.way(ship, cell), ways[cell]);
    }
    int portCell = portCells[asked.ofShip(ship, 3)];
    Due.is("toBreak() against a search", asked.toBreak(ship), fewest(from, breaking)[portCell]);
    Due.is("digest() behind way() and toBreak()", asked.digest(), twin().digest());
  }

  /** Tries every walk that never gets dearer: small seas allow it. */
  private static int[] fewest(int from, int[] prices) {
    int[] best = new int[15];
    java.util.Arrays.fill(best, Integer.MAX_VALUE);
    walk(from, 0, prices, best);
    for (int cell = 0; cell < 15; cell++) {
      best[cell] = best[cell] == Integer.MAX_VALUE ? NONE : best[cell];
    }
    return best;
  }

  private static void walk(int cell, int cost, int[] prices, int[] best) {
    if (cost >= best[cell]) {
      return;
    }
    best[cell] = cost;
    for (int next = 0; next < 15; next++) {
      int apart = Math.abs(cell / 5 - next / 5) + Math.abs(cell % 5 - next % 5);
      if (apart == 1 && prices[next] != NONE) {
        walk(next, cost + prices[next], prices, best);
      }
    }
  }

  private void digestIsAsTold() {
    ChannelWinter told = twin();
    long answer = told.digest();
    Due.is("digest() against its parts", answer, Digest.of(told, portCells));
  }
}
