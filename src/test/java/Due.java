/** Compares answers with those that are due, and counts the wrong ones. */
final class Due {
  interface Call {
    long answer();
  }

  private static int wrong = 0;
  private static int checked = 0;

  private Due() {
  }

  static void is(String call, long got, long want) {
    checked++;
    if (got != want) {
      wrong++;
      System.out.println(call + " answered " + got + ", due is " + want);
    }
  }

  static void isDouble(String call, double got, double want) {
    checked++;
    if (got != want) {
      wrong++;
      System.out.println(call + " answered " + got + ", due is " + want);
    }
  }

  static void outOfBounds(ChannelWinter x, String name, Call call) {
    refuses(x, IndexOutOfBoundsException.class, name, call);
  }

  static void badArgument(ChannelWinter x, String name, Call call) {
    refuses(x, IllegalArgumentException.class, name, call);
  }

  static void badState(ChannelWinter x, String name, Call call) {
    refuses(x, IllegalStateException.class, name, call);
  }

  /** The digest tells nearly all of an object: a refused call has to leave it as it was. */
  private static void refuses(ChannelWinter x, Class<? extends RuntimeException> due, String name, Call call) {
    checked++;
    long before = x.digest();
    String got;
    try {
      got = "answered " + call.answer();
    } catch (RuntimeException e) {
      got = e.getClass() == due ? "" : "threw " + e.getClass().getName();
    }
    if (!got.isEmpty()) {
      wrong++;
      System.out.println(name + " " + got + ", due is " + due.getName());
    } else if (x.digest() != before) {
      wrong++;
      System.out.println(name + " threw, but changed something");
    }
  }

  static void end(String test) {
    System.out.println(test + ": " + checked + " answers looked at, " + wrong + " not as due");
    if (wrong != 0 || checked == 0) {
      System.exit(1);
    }
  }
}
