/** Promises 1 to 8: what is told. */
public final class ToldTest {
  private static final int NONE = -1;

  public static void main(String[] args) {
    promise1();
    promise2();
    promise3();
    promise3ClearsPressAndChannel();
    promise4();
    promise5();
    promise6();
    promise7();
    promise8();
    Due.end("ToldTest");
  }

  private static void promise1() {
    ChannelWinter x = new ChannelWinter();
    for (int what = 0; what <= 10; what++) {
      Due.is("new many(" + what + ")", x.many(what), 0);
    }
    for (int cell = 0; cell < 15; cell++) {
      for (int what = 0; what <= 5; what++) {
        Due.is("new ofCell(" + cell + ", " + what + ")", x.ofCell(cell, what), 0);
      }
    }
    Due.outOfBounds(x, "new ofBreaker(0, 0)", () -> x.ofBreaker(0, 0));
    Due.outOfBounds(x, "new ofShip(0, 0)", () -> x.ofShip(0, 0));
    Due.outOfBounds(x, "new inForce(0, 0)", () -> x.inForce(0, 0));
    ChannelWinter other = new ChannelWinter();
    other.ice(3, 7);
    Due.is("an object of its own", x.ofCell(3, 0), 0);
  }

  private static void promise2() {
    ChannelWinter x = new ChannelWinter();
    Due.is("ice(0, 300)", x.ice(0, 300), 0);
    Due.is("ice(0, 0)", x.ice(0, 0), 300);
    Due.is("ice(14, 17)", x.ice(14, 17), 0);
    Due.is("ofCell(14, 0)", x.ofCell(14, 0), 17);
    Due.is("ofCell(13, 0)", x.ofCell(13, 0), 0);
    Due.outOfBounds(x, "ice(-1, 5)", () -> x.ice(-1, 5));
    Due.outOfBounds(x, "ice(15, 5)", () -> x.ice(15, 5));
    Due.outOfBounds(x, "ice(15, 301)", () -> x.ice(15, 301));
    Due.outOfBounds(x, "ice(least, least)", () -> x.ice(Integer.MIN_VALUE, Integer.MIN_VALUE));
    Due.badArgument(x, "ice(14, -1)", () -> x.ice(14, -1));
    Due.badArgument(x, "ice(14, 301)", () -> x.ice(14, 301));
    Due.badArgument(x, "ice(14, most)", () -> x.ice(14, Integer.MAX_VALUE));
    x.land(14);
    Due.badState(x, "ice(14, 1) on land", () -> x.ice(14, 1));
    Due.badState(x, "ice(14, 0) on land", () -> x.ice(14, 0));
    Due.badArgument(x, "ice(14, 301) on land", () -> x.ice(14, 301));
    x.ice(3, 300);
    x.ice(4, 300);
    x.pass(0, 1, 1);
    Due.is("ice(4, 0), what drifted over 300", x.ice(4, 0), 330);
    Due.is("press stays when ice is told", x.ofCell(4, 1), 30);
  }

  private static void promise3() {
    ChannelWinter x = new ChannelWinter();
    x.ice(7, 90);
    Due.is("land(7)", x.land(7), 90);
    Due.is("ofCell(7, 0)", x.ofCell(7, 0), 0);
    Due.is("ofCell(7, 3)", x.ofCell(7, 3), 1);
    Due.is("ofCell(8, 3)", x.ofCell(8, 3), 0);
    Due.is("land(0)", x.land(0), 0);
    Due.is("land(14)", x.land(14), 0);
    Due.outOfBounds(x, "land(-1)", () -> x.land(-1));
    Due.outOfBounds(x, "land(15)", () -> x.land(15));
    Due.badState(x, "land(7) again", () -> x.land(7));
    x.port(1);
    x.breaker(2, 5);
    x.ship(3, 0, 1, 0);
    Due.badState(x, "land(1), a port", () -> x.land(1));
    Due.badState(x, "land(2), a breaker", () -> x.land(2));
    Due.badState(x, "land(3), a ship", () -> x.land(3));
    x.sail(0, 4);
    x.pass(0, NONE, 1);
    Due.badState(x, "land(4), where the ship went", () -> x.land(4));
    Due.is("land(3), where the ship was", x.land(3), 0);
    x.pass(9, 1, 3);
    Due.is("no ice comes to land", x.ofCell(7, 0) + x.ofCell(7, 1), 0);
  }

  private static void promise3ClearsPressAndChannel() {
    ChannelWinter x = new ChannelWinter();
    x.ice(0, 100);
    x.breaker(0, 50);
    x.steer(0, 1);
    x.steer(0, 2);
    x.pass(0, 1, 2);
    Due.is("press ahead of land(1)", x.ofCell(1, 1), 8);
    Due.is("channel ahead of land(1)", x.ofCell(1, 2), 9);
    Due.is("land(1)", x.land(1), 18);
    Due.is("ice of land", x.ofCell(1, 0), 0);
    Due.is("press of land", x.ofCell(1, 1), 0);
    Due.is("channel of land", x.ofCell(1, 2), 0);
    Due.is("worth of land", x.ofCell(1, 4), 0);
  }

  private static void promise4() {
    ChannelWinter x = new ChannelWinter();
    x.land(3);
    Due.outOfBounds(x, "port(-1)", () -> x.port(-1));
    Due.outOfBounds(x, "port(15)", () -> x.port(15));
    Due.badArgument(x, "port(3) on land", () -> x.port(3));
    Due.is("port(14)", x.port(14), 0);
    Due.badArgument(x, "port(14) again", () -> x.port(14));
    Due.is("port(0)", x.port(0), 1);
    Due.is("port(7)", x.port(7), 2);
    Due.badState(x, "port(8), the fourth", () -> x.port(8));
    Due.badArgument(x, "port(7), the fourth, in a port", () -> x.port(7));
    Due.badArgument(x, "port(3), the fourth, on land", () -> x.port(3));
    Due.outOfBounds(x, "port(15), the fourth", () -> x.port(15));
    Due.is("many(6)", x.many(6), 3);
    x.breaker(7, 0);
    Due.is("fuel(0, 1) in the port told last", x.fuel(0, 1), 1);
  }

  private static void promise5() {
    ChannelWinter x = new ChannelWinter();
    Due.outOfBounds(x, "rule(0, 0, 24) without a port", () -> x.rule(0, 0, 24));
    x.port(0);
    x.port(1);
    Due.outOfBounds(x, "rule(-1, 0, 24)", () -> x.rule(-1, 0, 24));
    Due.outOfBounds(x, "rule(2, 9, 9)", () -> x.rule(2, 9, 9));
    Due.badArgument(x, "rule(0, -1, 24)", () -> x.rule(0, -1, 24));
    Due.badArgument(x, "rule(0, 5, 24)", () -> x.rule(0, 5, 24));
    Due.badArgument(x, "rule(0, 0, 23)", () -> x.rule(0, 0, 23));
    Due.badArgument(x, "rule(0, 0, 201)", () -> x.rule(0, 0, 201));
    Due.is("rule(0, 0, 24)", x.rule(0, 0, 24), 24);
    Due.is("rule(0, 4, 200)", x.rule(0, 4, 200), 200);
    x.pass(0, NONE, 5);
    for (int told = 2; told < 10; told++) {
      Due.is("rule(0, 1, 30)", x.rule(0, 1, 30), 35);
    }
    Due.badState(x, "rule(0, 1, 30), the eleventh", () -> x.rule(0, 1, 30));
    Due.badArgument(x, "rule(0, 5, 30), the eleventh", () -> x.rule(0, 5, 30));
    Due.badArgument(x, "rule(0, 1, 23), the eleventh", () -> x.rule(0, 1, 23));
    Due.is("rule(1, 1, 30)", x.rule(1, 1, 30), 35);
    Due.is("inForce(1, 35)", x.inForce(1, 35), 1);
  }

  private static void promise6() {
    ChannelWinter x = new ChannelWinter();
    x.port(0);
    x.port(1);
    x.rule(0, 4, 24);
    x.rule(1, 4, 24);
    Due.outOfBounds(x, "exempt(0, 0) without a ship", () -> x.exempt(0, 0) ? 1 : 0);
    x.pass(0, NONE, 24);
    x.ship(0, 3, 1, 0);
    x.ship(1, 3, 1, 1);
    x.ship(0, 3, 1, 0);
    Due.outOfBounds(x, "exempt(2, 0)", () -> x.exempt(2, 0) ? 1 : 0);
    Due.outOfBounds(x, "exempt(-1, 0)", () -> x.exempt(-1, 0) ? 1 : 0);
    Due.outOfBounds(x, "exempt(0, 3)", () -> x.exempt(0, 3) ? 1 : 0);
    Due.outOfBounds(x, "exempt(0, -1)", () -> x.exempt(0, -1) ? 1 : 0);
    Due.is("exempt(0, 1)", x.exempt(0, 1) ? 1 : 0, 0);
    Due.is("exempt(0, 0)", x.exempt(0, 0) ? 1 : 0, 0);
    Due.is("exempt(0, 0) again", x.exempt(0, 0) ? 1 : 0, 1);
    Due.is("exempt(1, 0)", x.exempt(1, 0) ? 1 : 0, 0);
    Due.is("pass() of an exempt ship", x.pass(0, NONE, 1), 1);
    Due.is("the exempt one arrived", x.ofShip(0, 4), 3);
    Due.is("one that is exempt elsewhere waits", x.ofShip(1, 13), 1);
    Due.is("one that is not exempt waits", x.ofShip(2, 13), 1);
    Due.is("exempt(0, 0), arrived", x.exempt(0, 0) ? 1 : 0, 1);
  }

  private static void promise7() {
    ChannelWinter x = new ChannelWinter();
    x.land(5);
    Due.outOfBounds(x, "breaker(-1, 0)", () -> x.breaker(-1, 0));
    Due.outOfBounds(x, "breaker(15, -1)", () -> x.breaker(15, -1));
    Due.badArgument(x, "breaker(5, 0) on land", () -> x.breaker(5, 0));
    Due.badArgument(x, "breaker(4, -1)", () -> x.breaker(4, -1));
    Due.badArgument(x, "breaker(4, 1000)", () -> x.breaker(4, 1000));
    Due.is("breaker(4, 0)", x.breaker(4, 0), 0);
    Due.is("breaker(4, 999)", x.breaker(4, 999), 1);
    Due.is("ofBreaker(0, 0)", x.ofBreaker(0, 0), 4);
    Due.is("ofBreaker(0, 1)", x.ofBreaker(0, 1), 0);
    Due.is("ofBreaker(1, 1)", x.ofBreaker(1, 1), 999);
    Due.badState(x, "breaker(4, 0), the third", () -> x.breaker(4, 0));
    Due.badArgument(x, "breaker(5, 0), the third, on land", () -> x.breaker(5, 0));
    Due.badArgument(x, "breaker(4, 1000), the third", () -> x.breaker(4, 1000));
    Due.is("many(5)", x.many(5), 2);
  }

  private static void promise8() {
    ChannelWinter x = new ChannelWinter();
    x.land(5);
    Due.outOfBounds(x, "ship(0, 0, 1, 0) without a port", () -> x.ship(0, 0, 1, 0));
    x.port(2);
    Due.outOfBounds(x, "ship(-1, 0, 1, 0)", () -> x.ship(-1, 0, 1, 0));
    Due.outOfBounds(x, "ship(15, 9, 1, 0)", () -> x.ship(15, 9, 1, 0));
    Due.outOfBounds(x, "ship(5, 0, 1, 1) on land", () -> x.ship(5, 0, 1, 1));
    Due.outOfBounds(x, "ship(0, 0, 1, -1)", () -> x.ship(0, 0, 1, -1));
    Due.badArgument(x, "ship(5, 0, 1, 0) on land", () -> x.ship(5, 0, 1, 0));
    Due.badArgument(x, "ship(0, -1, 1, 0)", () -> x.ship(0, -1, 1, 0));
    Due.badArgument(x, "ship(0, 5, 1, 0)", () -> x.ship(0, 5, 1, 0));
    Due.badArgument(x, "ship(0, 0, 0, 0)", () -> x.ship(0, 0, 0, 0));
    Due.badArgument(x, "ship(0, 0, 10, 0)", () -> x.ship(0, 0, 10, 0));
    Due.is("ship(2, 0, 1, 0)", x.ship(2, 0, 1, 0), 0);
    x.pass(0, NONE, 1);
    Due.is("ship(14, 4, 9, 0)", x.ship(14, 4, 9, 0), 1);
    Due.is("ofShip(1, 0)", x.ofShip(1, 0), 14);
    Due.is("ofShip(1, 1)", x.ofShip(1, 1), 4);
    Due.is("ofShip(1, 2)", x.ofShip(1, 2), 9);
    Due.is("ofShip(1, 3)", x.ofShip(1, 3), 0);
    Due.is("ofShip(1, 4)", x.ofShip(1, 4), 0);
    Due.is("ofShip(1, 5)", x.ofShip(1, 5), NONE);
    Due.is("ofShip(1, 9)", x.ofShip(1, 9), NONE);
    for (int number = 2; number < 5; number++) {
      Due.is("ship(0, 0, 1, 0)", x.ship(0, 0, 1, 0), number);
    }
    Due.badState(x, "ship(0, 0, 1, 0), the sixth", () -> x.ship(0, 0, 1, 0));
    Due.badArgument(x, "ship(0, 5, 1, 0), the sixth", () -> x.ship(0, 5, 1, 0));
    Due.outOfBounds(x, "ship(0, 0, 1, 1), the sixth", () -> x.ship(0, 0, 1, 1));
    Due.is("many(3)", x.many(3), 5);
  }
}
