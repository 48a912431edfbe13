import java.util.ArrayList;
import java.util.List;

/** What digest() has to answer, put together from the other answers, as promise 26 tells it. */
final class Digest {
  private Digest() {
  }

  /** No call tells the CELL of a PORT: the caller has to know them. */
  static long of(ChannelWinter x, int[] portCells) {
    long d = 4802;
    for (long v : values(x, portCells)) {
      d = d * 31 + v;
    }
    return d;
  }

  /** Each v, in the order of the document. */
  static List<Long> values(ChannelWinter x, int[] portCells) {
    List<Long> values = new ArrayList<>();
    for (int what = 0; what <= 10; what++) {
      values.add((long) x.many(what));
    }
    for (int cell = 0; cell <= 14; cell++) {
      for (int what = 0; what <= 5; what++) {
        values.add((long) x.ofCell(cell, what));
      }
    }
    for (int breaker = 0; breaker < x.many(5); breaker++) {
      for (int what = 0; what <= 5; what++) {
        values.add((long) x.ofBreaker(breaker, what));
      }
      values.add((long) x.helpNext(breaker));
    }
    for (int ship = 0; ship < x.many(3); ship++) {
      for (int what = 0; what <= 14; what++) {
        values.add((long) x.ofShip(ship, what));
      }
      values.add((long) x.way(ship, portCells[x.ofShip(ship, 3)]));
      values.add((long) x.toBreak(ship));
      values.add((long) x.arriveIn(ship, 6, 1, -1));
    }
    for (int port = 0; port < x.many(6); port++) {
      values.add((long) x.inForce(port, x.many(0)));
      values.add((long) x.inForce(port, 100));
    }
    return values;
  }
}
