/** Promises 9 to 14: what is done between the hours. */
public final class DoneTest {
  private static final int NONE = -1;

  public static void main(String[] args) {
    promise9();
    promise10();
    promise11();
    promise12();
    promise12FromAnother();
    promise13();
    promise13AndLeading();
    promise14();
    Due.end("DoneTest");
  }

  private static void promise9() {
    ChannelWinter x = new ChannelWinter();
    Due.outOfBounds(x, "steer(0, 0) without a breaker", () -> x.steer(0, 0));
    x.land(9);
    x.breaker(0, 999);
    x.breaker(1, 999);
    Due.outOfBounds(x, "steer(-1, 0)", () -> x.steer(-1, 0));
    Due.outOfBounds(x, "steer(2, 0)", () -> x.steer(2, 0));
    Due.outOfBounds(x, "steer(0, -1)", () -> x.steer(0, -1));
    Due.outOfBounds(x, "steer(0, 15)", () -> x.steer(0, 15));
    int[] cells = {1, 2, 3, 8, 14, 0, 9, 9};
    for (int i = 0; i < cells.length; i++) {
      Due.is("steer(0, " + cells[i] + ")", x.steer(0, cells[i]), i + 1);
    }
    Due.badState(x, "steer(0, 1), the ninth", () -> x.steer(0, 1));
    Due.outOfBounds(x, "steer(0, 15), the ninth", () -> x.steer(0, 15));
    Due.is("steer(1, 2)", x.steer(1, 2), 1);
    x.pass(0, NONE, 1);
    Due.is("the breaker is in the first cell", x.ofBreaker(0, 0), 1);
    Due.is("that is taken off", x.ofBreaker(0, 2), 7);
    Due.is("steer(0, 1) behind that", x.steer(0, 1), 8);
    x.pass(0, NONE, 3);
    Due.is("the breaker is in the fourth cell", x.ofBreaker(0, 0), 8);
  }

  private static void promise10() {
    ChannelWinter x = new ChannelWinter();
    x.port(14);
    x.port(0);
    Due.outOfBounds(x, "sail(0, 0) without a ship", () -> x.sail(0, 0));
    x.ship(1, 4, 9, 0);
    x.ship(1, 4, 9, 1);
    Due.outOfBounds(x, "sail(-1, 0)", () -> x.sail(-1, 0));
    Due.outOfBounds(x, "sail(2, 0)", () -> x.sail(2, 0));
    Due.outOfBounds(x, "sail(0, -1)", () -> x.sail(0, -1));
    Due.outOfBounds(x, "sail(0, 15)", () -> x.sail(0, 15));
    int[] cells = {2, 3, 8, 13, 1, 1, 1, 1};
    for (int i = 0; i < cells.length; i++) {
      Due.is("sail(0, " + cells[i] + ")", x.sail(0, cells[i]), i + 1);
    }
    Due.badState(x, "sail(0, 1), the ninth", () -> x.sail(0, 1));
    Due.outOfBounds(x, "sail(0, 15), the ninth", () -> x.sail(0, 15));
    Due.is("sail(1, 0)", x.sail(1, 0), 1);
    x.pass(0, NONE, 1);
    Due.badState(x, "sail(1, 1), arrived", () -> x.sail(1, 1));
    Due.outOfBounds(x, "sail(1, 15), arrived", () -> x.sail(1, 15));
    x.pass(0, NONE, 3);
    Due.is("the ship is in the fourth cell", x.ofShip(0, 0), 13);
    Due.is("cells left", x.ofShip(0, 6), 4);
  }

  private static void promise11() {
    ChannelWinter x = new ChannelWinter();
    x.port(14);
    x.port(0);
    Due.outOfBounds(x, "halt(0) without a ship", () -> x.halt(0));
    x.breaker(1, 100);
    x.ship(1, 1, 9, 0);
    x.ship(1, 1, 9, 0);
    x.ship(0, 1, 9, 1);
    Due.outOfBounds(x, "halt(-1)", () -> x.halt(-1));
    Due.outOfBounds(x, "halt(3)", () -> x.halt(3));
    Due.is("halt(0) without a route", x.halt(0), 0);
    x.sail(0, 2);
    x.sail(0, 3);
    x.lead(0, 0);
    x.tow(0, 1);
    Due.is("halt(0)", x.halt(0), 2);
    Due.is("its route is dropped", x.ofShip(0, 6), 0);
    Due.is("it is free", x.ofShip(0, 4), 0);
    Due.is("it has no breaker", x.ofShip(0, 5), NONE);
    Due.is("the breaker leads none", x.ofBreaker(0, 3), 0);
    Due.is("the breaker tows the other one yet", x.ofBreaker(0, 4), 1);
    Due.is("halt(1)", x.halt(1), 0);
    Due.is("the breaker tows none", x.ofBreaker(0, 4), NONE);
    x.pass(0, NONE, 1);
    Due.is("halt(2), arrived", x.halt(2), 0);
    Due.is("it stays so", x.ofShip(2, 4), 3);
    Due.is("one that is halted waits by 0", x.ofShip(0, 10), 1);
  }

  private static void promise12() {
    ChannelWinter x = new ChannelWinter();
    x.port(14);
    x.port(0);
    x.breaker(0, 100);
    Due.outOfBounds(x, "lead(0, 0) without a ship", () -> x.lead(0, 0));
    x.ship(0, 0, 1, 0);
    x.ship(0, 1, 1, 0);
    x.ship(0, 1, 1, 0);
    x.ship(1, 1, 1, 0);
    x.ship(0, 1, 1, 1);
    Due.outOfBounds(x, "lead(1, 0)", () -> x.lead(1, 0));
    Due.outOfBounds(x, "lead(-1, 0)", () -> x.lead(-1, 0));
    Due.outOfBounds(x, "lead(0, -1)", () -> x.lead(0, -1));
    Due.outOfBounds(x, "lead(0, 5)", () -> x.lead(0, 5));
    Due.badState(x, "lead(0, 3), elsewhere", () -> x.lead(0, 3));
    Due.is("lead(0, 0), class 0", x.lead(0, 0), 1);
    Due.badState(x, "lead(0, 0) again", () -> x.lead(0, 0));
    Due.is("lead(0, 1)", x.lead(0, 1), 2);
    Due.badState(x, "lead(0, 2), the third", () -> x.lead(0, 2));
    x.pass(0, NONE, 1);
    Due.is("ship 4 arrived", x.ofShip(4, 4), 3);
    x.halt(0);
    Due.badState(x, "lead(0, 4), arrived", () -> x.lead(0, 4));
    Due.is("lead(0, 2)", x.lead(0, 2), 2);
    Due.is("ofShip(2, 4)", x.ofShip(2, 4), 1);
    Due.is("ofShip(2, 5)", x.ofShip(2, 5), 0);
  }

  private static void promise12FromAnother() {
    ChannelWinter x = new ChannelWinter();
    x.port(14);
    x.breaker(0, 100);
    x.breaker(0, 100);
    x.ship(0, 1, 1, 0);
    x.ship(0, 1, 1, 0);
    x.ship(0, 1, 1, 0);
    x.lead(0, 0);
    x.lead(0, 1);
    x.tow(0, 2);
    Due.badState(x, "lead(0, 2), towed by it, the third", () -> x.lead(0, 2));
    Due.is("lead(1, 1)", x.lead(1, 1), 1);
    Due.is("breaker 0 leads one less", x.ofBreaker(0, 3), 1);
    Due.is("ofShip(1, 5)", x.ofShip(1, 5), 1);
    Due.is("lead(0, 2), towed by it", x.lead(0, 2), 2);
    Due.is("it is led", x.ofShip(2, 4), 1);
    Due.is("breaker 0 tows none", x.ofBreaker(0, 4), NONE);
    x.tow(1, 2);
    Due.is("lead(0, 2), towed by another", x.lead(0, 2), 2);
    Due.is("breaker 1 tows none", x.ofBreaker(1, 4), NONE);
  }

  private static void promise13() {
    ChannelWinter x = new ChannelWinter();
    x.port(14);
    x.port(0);
    x.breaker(0, 100);
    Due.outOfBounds(x, "tow(0, 0) without a ship", () -> x.tow(0, 0));
    for (int rank = 0; rank <= 4; rank++) {
      x.ship(rank == 3 ? 1 : 0, rank, 1, rank == 4 ? 1 : 0);
    }
    Due.outOfBounds(x, "tow(1, 0)", () -> x.tow(1, 0));
    Due.outOfBounds(x, "tow(-1, 0)", () -> x.tow(-1, 0));
    Due.outOfBounds(x, "tow(0, 5)", () -> x.tow(0, 5));
    Due.outOfBounds(x, "tow(0, -1)", () -> x.tow(0, -1));
    Due.badState(x, "tow(0, 0), class 0", () -> x.tow(0, 0));
    Due.badState(x, "tow(0, 3), elsewhere", () -> x.tow(0, 3));
    Due.is("tow(0, 1)", x.tow(0, 1), 30);
    Due.badState(x, "tow(0, 1) again", () -> x.tow(0, 1));
    Due.badState(x, "tow(0, 2), the second", () -> x.tow(0, 2));
    x.halt(1);
    Due.is("tow(0, 2)", x.tow(0, 2), 50);
    x.halt(2);
    Due.is("tow(0, 4)", x.tow(0, 4), 120);
    x.pass(0, NONE, 1);
    Due.is("ship 4 arrived in tow", x.ofShip(4, 4), 3);
    Due.badState(x, "tow(0, 4), arrived", () -> x.tow(0, 4));
    x.sail(3, 0);
    x.pass(0, NONE, 1);
    Due.is("tow(0, 3)", x.tow(0, 3), 80);
  }

  private static void promise13AndLeading() {
    ChannelWinter x = new ChannelWinter();
    x.port(14);
    x.breaker(0, 100);
    x.breaker(0, 100);
    x.ship(0, 1, 1, 0);
    x.ship(0, 2, 1, 0);
    x.lead(0, 0);
    Due.is("tow(0, 0), led by it", x.tow(0, 0), 30);
    Due.is("breaker 0 leads none", x.ofBreaker(0, 3), 0);
    Due.is("it is towed", x.ofShip(0, 4), 2);
    Due.is("tow(1, 0), towed by another", x.tow(1, 0), 30);
    Due.is("breaker 0 tows none", x.ofBreaker(0, 4), NONE);
    Due.is("breaker 1 tows it", x.ofBreaker(1, 4), 0);
    Due.is("tow(0, 1), while the other breaker tows", x.tow(0, 1), 50);
    Due.badState(x, "tow(0, 0), when it tows another", () -> x.tow(0, 0));
  }

  private static void promise14() {
    ChannelWinter x = new ChannelWinter();
    Due.outOfBounds(x, "fuel(0, 1) without a breaker", () -> x.fuel(0, 1));
    x.port(3);
    x.port(7);
    x.breaker(7, 0);
    x.breaker(8, 0);
    Due.outOfBounds(x, "fuel(-1, 0)", () -> x.fuel(-1, 0));
    Due.outOfBounds(x, "fuel(2, 1)", () -> x.fuel(2, 1));
    Due.badArgument(x, "fuel(0, 0)", () -> x.fuel(0, 0));
    Due.badArgument(x, "fuel(0, 501)", () -> x.fuel(0, 501));
    Due.badArgument(x, "fuel(0, -1)", () -> x.fuel(0, -1));
    Due.badArgument(x, "fuel(1, 0), in no port", () -> x.fuel(1, 0));
    Due.badState(x, "fuel(1, 1), in no port", () -> x.fuel(1, 1));
    Due.is("fuel(0, 1)", x.fuel(0, 1), 1);
    Due.is("fuel(0, 500)", x.fuel(0, 500), 501);
    Due.is("fuel(0, 497)", x.fuel(0, 497), 998);
    Due.is("fuel(0, 1)", x.fuel(0, 1), 999);
    Due.is("fuel(0, 500), full", x.fuel(0, 500), 999);
    Due.is("ofBreaker(0, 1)", x.ofBreaker(0, 1), 999);
    Due.is("ofBreaker(1, 1)", x.ofBreaker(1, 1), 0);
  }
}
