/** Compares answers with those that are due, and counts the wrong ones. */
final class Due {
  interface Call {
    long answer();
  }

  private static int wrong = 0;
  private static int checked = 0;
  private static String sentence = "";
  private static int checkedAhead = 0;

  private Due() {
  }

  /** The words of the document against which the answers from here on are held. */
  static void sentence(String words) {
    endSentence();
    sentence = words;
    checkedAhead = checked;
  }

  private static void endSentence() {
    if (!sentence.isEmpty() && checked == checkedAhead) {
      wrong++;
      System.out.println("nothing was held against \"" + sentence + "\"");
    }
  }

  static void is(String call, long got, long want) {
    is(call, Long.toString(got), Long.toString(want));
  }

  static void is(String call, String got, String want) {
    checked++;
    if (!got.equals(want)) {
      wrong++;
      System.out.println(call + " answered " + got + ", due is " + want);
    }
  }

  static void isDouble(String call, double got, double want) {
    checked++;
    if (got != want) {
      wrong++;
      System.out.println(call + " answered " + got + ", due is " + want);
    }
  }

  /** Names the sentence and the test's line in place of the call. */
  static void isHere(String got, String want) {
    checked++;
    if (!got.equals(want)) {
      wrong++;
      System.out.println(place() + " (" + sentence + "): " + got + ", due is " + want);
    }
  }

  static void isHere(long got, long want) {
    isHere(Long.toString(got), Long.toString(want));
  }

  private static String place() {
    for (StackTraceElement frame : new Throwable().getStackTrace()) {
      String owner = frame.getClassName();
      if (!owner.equals("Due") && !owner.equals("Scene")) {
        return frame.getFileName() + ":" + frame.getLineNumber();
      }
    }
    return "somewhere";
  }

  static void outOfBounds(ChannelWinter x, String name, Call call) {
    refuses(x, IndexOutOfBoundsException.class, name, call);
  }

  static void badArgument(ChannelWinter x, String name, Call call) {
    refuses(x, IllegalArgumentException.class, name, call);
  }

  static void badState(ChannelWinter x, String name, Call call) {
    refuses(x, IllegalStateException.class, name, call);
  }

  /** The digest tells much of an object, and fast: Scene compares all of one that had a refused call. */
  private static void refuses(ChannelWinter x, Class<? extends RuntimeException> due, String name, Call call) {
    checked++;
    long before = x.digest();
    String got;
    try {
      got = "answered " + call.answer();
    } catch (RuntimeException e) {
      got = e.getClass() == due ? "" : "threw " + e.getClass().getName();
    }
    if (!got.isEmpty()) {
      wrong++;
      System.out.println(name + " " + got + ", due is " + due.getName());
    } else if (x.digest() != before) {
      wrong++;
      System.out.println(name + " threw, but changed something");
    }
  }

  static void end(String test) {
    endSentence();
    System.out.println(test + ": " + checked + " answers looked at, " + wrong + " not as due");
    if (wrong != 0 || checked == 0) {
      System.exit(1);
    }
  }
}
