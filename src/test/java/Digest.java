/** What digest() has to answer, put together from the other answers, as promise 26 tells it. */
final class Digest {
  private Digest() {
  }

  /** No call tells the CELL of a PORT: the caller has to know them. */
  static long of(ChannelWinter x, int[] portCells) {
    long d = 4802;
    for (int what = 0; what <= 10; what++) {
      d = d * 31 + x.many(what);
    }
    for (int cell = 0; cell <= 14; cell++) {
      for (int what = 0; what <= 5; what++) {
        d = d * 31 + x.ofCell(cell, what);
      }
    }
    for (int breaker = 0; breaker < x.many(5); breaker++) {
      for (int what = 0; what <= 5; what++) {
        d = d * 31 + x.ofBreaker(breaker, what);
      }
      d = d * 31 + x.helpNext(breaker);
    }
    for (int ship = 0; ship < x.many(3); ship++) {
      for (int what = 0; what <= 14; what++) {
        d = d * 31 + x.ofShip(ship, what);
      }
      d = d * 31 + x.way(ship, portCells[x.ofShip(ship, 3)]);
      d = d * 31 + x.toBreak(ship);
      d = d * 31 + x.arriveIn(ship, 6, 1, -1);
    }
    for (int port = 0; port < x.many(6); port++) {
      d = d * 31 + x.inForce(port, x.many(0));
      d = d * 31 + x.inForce(port, 100);
    }
    return d;
  }
}
