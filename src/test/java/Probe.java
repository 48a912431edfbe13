/**
 * What an object tells of itself, each part by calls that bring it to light: two objects with the same
 * history have to tell the same. Some of these calls change the object.
 */
enum Probe {
  /** All that one asks. */
  ASKED {
    @Override
    void ask(Told told) {
      told.numbered(0, 10, what -> x -> x.many(what));
      told.call(x -> Double.doubleToLongBits(x.meanIce()));
      for (int cell : Scene.numbers(0, 14)) {
        told.numbered(0, 5, what -> x -> x.ofCell(cell, what));
      }
      for (int breaker : Scene.numbers(0, 2)) {
        told.numbered(0, 5, what -> x -> x.ofBreaker(breaker, what));
      }
      for (int ship : Scene.numbers(0, 5)) {
        told.numbered(0, 14, what -> x -> x.ofShip(ship, what));
      }
    }
  },
  /** What the RULES say, and what would be. */
  WOULD_BE {
    @Override
    void ask(Told told) {
      int[] hours = {0, 1, 23, 24, 25, 26, 29, 30, 34, 35, 48, 49, 99, 100, 199, 200, 201, 999, Scene.MOST_INT};
      for (int port : Scene.numbers(0, 3)) {
        for (int hour : hours) {
          told.call(x -> x.inForce(port, hour));
        }
      }
      for (int ship : Scene.numbers(0, 4)) {
        told.numbered(0, 14, cell -> x -> x.way(ship, cell));
        told.call(x -> x.toBreak(ship));
        told.numbered(-1, 3, wind -> x -> x.arriveIn(ship, 24, 1, wind));
      }
      told.numbered(0, 1, breaker -> x -> x.helpNext(breaker));
      told.call(x -> x.digest());
    }
  },
  /** What can be told and done yet. */
  LEFT {
    @Override
    void ask(Told told) {
      for (int breaker : Scene.numbers(0, 1)) {
        told.numbered(0, 4, ship -> x -> x.lead(breaker, ship));
        told.numbered(0, 4, ship -> x -> x.tow(breaker, ship));
        told.numbered(0, 8, again -> x -> x.steer(breaker, 7));
        told.call(x -> x.fuel(breaker, 1));
      }
      for (int ship : Scene.numbers(0, 4)) {
        told.numbered(0, 2, port -> x -> Scene.bit(x.exempt(port, ship)));
        told.numbered(0, 8, again -> x -> x.sail(ship, 7));
        told.call(x -> x.halt(ship));
      }
      for (int port : Scene.numbers(0, 2)) {
        told.numbered(0, 10, again -> x -> x.rule(port, 4, 24));
      }
      told.numbered(0, 2, again -> x -> x.breaker(7, 1));
      told.numbered(0, 5, again -> x -> x.ship(7, 0, 1, 0));
      told.numbered(0, 14, cell -> x -> x.port(cell));
      told.numbered(0, 14, cell -> x -> x.ice(cell, 1));
      told.numbered(0, 14, cell -> x -> x.land(cell));
    }
  },
  /** What a refused call might have left for those that are not there yet. */
  GROWN {
    @Override
    void ask(Told told) {
      told.numbered(0, 14, cell -> x -> x.port(cell));
      told.numbered(0, 14, cell -> x -> x.breaker(cell, 3));
      told.numbered(0, 14, cell -> x -> x.ship(cell, 0, 1, 0));
      for (int breaker : Scene.numbers(0, 1)) {
        told.numbered(0, 5, what -> x -> x.ofBreaker(breaker, what));
      }
      for (int ship : Scene.numbers(0, 4)) {
        told.numbered(0, 14, what -> x -> x.ofShip(ship, what));
        told.numbered(0, 2, port -> x -> Scene.bit(x.exempt(port, ship)));
      }
      for (int port : Scene.numbers(0, 2)) {
        told.numbered(0, 9, tens -> x -> x.inForce(port, 25 * tens));
      }
      told.numbered(1, 24, hour -> x -> x.pass(0, Scene.NONE, 1) * 31 + x.digest());
    }
  },
  /** What comes: routes, exemptions and rules tell of themselves as HOURS go by. */
  HOURS {
    @Override
    void ask(Told told) {
      told.numbered(1, 10, hour -> x -> x.pass(0, Scene.NONE, 1) * 31 + x.digest());
      told.numbered(-1, 3, wind -> x -> x.pass(2, wind, 24) * 31 + x.digest());
    }
  };

  interface Numbered {
    Scene.Call with(int number);
  }

  private static final int MOST_CALLS = 512;

  abstract void ask(Told told);

  /** An object is only made for so many calls: those ahead count. */
  String of(ChannelWinter x, int callsAhead) {
    Told told = new Told(x, callsAhead);
    ask(told);
    return told.text.toString();
  }

  /** An object's answers, one behind the other. */
  static final class Told {
    private final ChannelWinter x;
    private final StringBuilder text = new StringBuilder();
    private int calls;

    Told(ChannelWinter x, int callsAhead) {
      this.x = x;
      calls = callsAhead;
    }

    void call(Scene.Call call) {
      calls++;
      if (calls > MOST_CALLS) {
        throw new IllegalStateException("this scene and its probe make more than 512 calls");
      }
      text.append(Scene.answer(x, call)).append(' ');
    }

    void numbered(int first, int last, Numbered call) {
      for (int number = first; number <= last; number++) {
        call(call.with(number));
      }
    }
  }
}
