import java.util.ArrayList;
import java.util.List;

/**
 * What was told and done to an object, kept as calls: the same object can be made as often as a test
 * needs it, and one that had a refused call be compared with one that had not.
 */
final class Scene {
  static final int NONE = -1;
  static final int NORTH = 0;
  static final int EAST = 1;
  static final int SOUTH = 2;
  static final int WEST = 3;
  static final int LEAST_INT = Integer.MIN_VALUE;
  static final int MOST_INT = Integer.MAX_VALUE;

  interface Call {
    long on(ChannelWinter x);
  }

  private final List<Call> calls;

  private Scene(List<Call> calls) {
    this.calls = calls;
  }

  static Scene of(Call... calls) {
    return new Scene(List.of()).with(calls);
  }

  /** The numbers from one to another, both counted: a loop over an array gives lambdas a variable each. */
  static int[] numbers(int first, int last) {
    int[] numbers = new int[last - first + 1];
    for (int i = 0; i < numbers.length; i++) {
      numbers[i] = first + i;
    }
    return numbers;
  }

  static long bit(boolean answer) {
    return answer ? 1 : 0;
  }

  Scene with(Call... more) {
    List<Call> all = new ArrayList<>(calls);
    all.addAll(List.of(more));
    return new Scene(all);
  }

  Scene times(int count, Call call) {
    Scene scene = this;
    for (int i = 0; i < count; i++) {
      scene = scene.with(call);
    }
    return scene;
  }

  /** Each CELL that is told becomes LAND. */
  Scene land(int... cells) {
    Scene scene = this;
    for (int cell : cells) {
      scene = scene.with(x -> x.land(cell));
    }
    return scene;
  }

  Scene steer(int breaker, int... cells) {
    Scene scene = this;
    for (int cell : cells) {
      scene = scene.with(x -> x.steer(breaker, cell));
    }
    return scene;
  }

  Scene sail(int ship, int... cells) {
    Scene scene = this;
    for (int cell : cells) {
      scene = scene.with(x -> x.sail(ship, cell));
    }
    return scene;
  }

  /** HOURS without COLD and WIND. */
  Scene calm(int hours) {
    Scene scene = this;
    for (int left = hours; left > 0; left -= 24) {
      int some = Math.min(24, left);
      scene = scene.with(x -> x.pass(0, NONE, some));
    }
    return scene;
  }

  ChannelWinter make() {
    ChannelWinter x = new ChannelWinter();
    for (Call call : calls) {
      call.on(x);
    }
    return x;
  }

  /** The call has this answer. Returns the scene with the call. */
  Scene due(long want, Call call) {
    Due.isHere(answer(make(), call), Long.toString(want));
    return with(call);
  }

  Scene index(Call... refused) {
    return refuses("IndexOutOfBoundsException", refused);
  }

  Scene argument(Call... refused) {
    return refuses("IllegalArgumentException", refused);
  }

  Scene state(Call... refused) {
    return refuses("IllegalStateException", refused);
  }

  /** Just this exception, no class below it: the machine's own bear other names. */
  private Scene refuses(String exception, Call[] refused) {
    for (int i = 0; i < refused.length; i++) {
      Due.isHere("call " + i + ": " + answer(make(), refused[i]), "call " + i + ": " + exception);
      for (Probe probe : Probe.values()) {
        ChannelWinter x = make();
        answer(x, refused[i]);
        String behind = probe.of(x, calls.size() + 1);
        String without = probe.of(make(), calls.size());
        Due.isHere("behind call " + i + ": " + behind, "behind call " + i + ": " + without);
      }
    }
    return this;
  }

  static String answer(ChannelWinter x, Call call) {
    try {
      return Long.toString(call.on(x));
    } catch (RuntimeException e) {
      return e.getClass().getSimpleName();
    }
  }
}
