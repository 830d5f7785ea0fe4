import java.util.ArrayList;
import java.util.Arrays;
import java.util.List;
import java.util.NoSuchElementException;

/** What the tests have in common: comparing answers, and writing and reading messages. */
final class Checks {
  interface Call {
    Object answer();
  }

  static final int[] NOTHING = {};
  static final int OWN = 4;
  static final Class<?> ILLEGAL_ARGUMENT = IllegalArgumentException.class;
  static final Class<?> ILLEGAL_STATE = IllegalStateException.class;
  static final Class<?> NO_ELEMENT = NoSuchElementException.class;

  private static String about = "";
  private static int wrong;
  private static int checked;

  private Checks() {}

  /** What the checks that follow are about, for what is printed of the wrong ones. */
  static void setAbout(String words) {
    about = words.isEmpty() ? "" : "[" + words + "] ";
  }

  static int checked() {
    return checked;
  }

  static void same(String what, Object got, Object due) {
    checked++;
    if (!got.equals(due)) {
      wrong++;
      System.out.println(about + what + ": answered " + got + ", due is " + due);
    }
  }

  static void row(String what, int[] got, int... due) {
    same(what, Arrays.toString(got), Arrays.toString(due));
  }

  static void fails(String what, Class<?> due, Call call) {
    same(what, outcome(call), due.getSimpleName());
  }

  /** What a call answers or throws, as a text. */
  static String outcome(Call call) {
    try {
      return String.valueOf(call.answer());
    } catch (RuntimeException e) {
      return e.getClass().getSimpleName();
    }
  }

  /** What a call without an answer throws, or "done". */
  static void refused(String what, Class<?> due, Runnable call) {
    fails(what, due, () -> done(call));
  }

  static Object done(Runnable call) {
    call.run();
    return "done";
  }

  /** Nothing of a session is left (but what was sent, and not taken). */
  static void idle(String what, RouteSpeaker x, int p) {
    for (int k : new int[] {0, 1, 2, 3, 4, 6}) {
      same(what + ": session(" + p + ", " + k + ")", x.session(p, k), 0);
    }
  }

  /** The session was ended with a code and subcode, and this alone was sent since the last look. */
  static void ended(String what, RouteSpeaker x, int p, int code, int subcode) {
    row(what, sent(x, p), 4, 3, code, subcode);
    idle(what, x, p);
  }

  static void finish() {
    System.out.println(checked + " checks, " + wrong + " wrong");
    if (wrong > 0) {
      System.exit(1);
    }
  }

  static int[] join(int[]... parts) {
    List<Integer> all = new ArrayList<>();
    for (int[] part : parts) {
      for (int value : part) {
        all.add(value);
      }
    }
    return all.stream().mapToInt(Integer::intValue).toArray();
  }

  static int[] ints(int... values) {
    return values;
  }

  /** Feeds bytes, up to eight a call; answers what the first of these calls answered. */
  static boolean feed(RouteSpeaker x, int p, int... bytes) {
    boolean first = false;
    for (int from = 0; from < bytes.length; from += 8) {
      int n = Math.min(8, bytes.length - from);
      long packed = 0;
      for (int i = 0; i < n; i++) {
        packed = packed << 8 | bytes[from + i];
      }
      boolean answer = x.feed(p, packed, n);
      first = from == 0 ? answer : first;
    }
    return first;
  }

  /** Takes all that was sent to a peer. */
  static int[] sent(RouteSpeaker x, int p) {
    int[] all = new int[x.session(p, 5)];
    for (int i = 0; i < all.length; i++) {
      all[i] = x.take(p);
    }
    return all;
  }

  /** Brings the idle session of an external peer with its first network to a state, and takes nothing. */
  static void bring(RouteSpeaker x, int p, int state, int hold) {
    if (state >= 1) {
      x.start(p);
    }
    if (state >= 2) {
      feed(x, p, 6, 1, 4, 200 + p, hold, 20 + p);
    }
    if (state >= 3) {
      feed(x, p, 2, 4);
    }
    same("the state", x.session(p, 0), state);
  }

  static void agree(RouteSpeaker x, int p, int network, int hold, int id) {
    x.start(p);
    feed(x, p, 6, 1, 4, network, hold, id);
  }

  /** Brings a session up with the hold time 9 and takes nothing. */
  static void up(RouteSpeaker x, int p, int network, int id) {
    agree(x, p, network, 9, id);
    feed(x, p, 2, 4);
  }

  /** A new object with all sessions up, external ones, the IDs 20 .. 23, and nothing sent. */
  static RouteSpeaker allUp() {
    return allUp(0, 0, 0, 0);
  }

  static RouteSpeaker allUp(int... roles) {
    RouteSpeaker x = new RouteSpeaker();
    for (int p = 0; p < 4; p++) {
      x.peer(p, roles[p], 200 + p);
      up(x, p, roles[p] == 0 ? 200 + p : 100, 20 + p);
      sent(x, p);
    }
    return x;
  }

  static int[] update(int[] withdrawn, int[] attributes, int... announced) {
    int[] rest = join(ints(2, withdrawn.length / 2), withdrawn, ints(attributes.length), attributes, announced);
    return join(ints(rest.length + 1), rest);
  }

  /** What is sent to tell a route. */
  static int[] told(int[] attributes, int... prefix) {
    return update(NOTHING, attributes, prefix);
  }

  /** What is sent to an external peer without a padding, of a route with ORIGIN 0 and this PATH. */
  static int[] toldOut(int[] path, int... prefix) {
    return told(outer(0, path(join(ints(100), path)), 7), prefix);
  }

  /** What is sent to tell that nothing is told any more. */
  static int[] untold(int length, int address) {
    return ints(6, 2, 1, length, address, 0);
  }

  static void announce(RouteSpeaker x, int p, int[] attributes, int... prefixes) {
    feed(x, p, update(NOTHING, attributes, prefixes));
  }

  static void withdraw(RouteSpeaker x, int p, int... prefixes) {
    feed(x, p, update(prefixes, NOTHING));
  }

  static int[] attribute(int name, int... value) {
    return join(ints(name, value.length), value);
  }

  static int[] path(int... networks) {
    return attribute(2, networks);
  }

  /** ORIGIN, PATH and NEXT: what an external peer's route needs. */
  static int[] outer(int origin, int[] path, int next) {
    return join(attribute(1, origin), path, attribute(3, next));
  }

  /** ORIGIN, PATH, NEXT and PREFERENCE: what an internal peer's route needs. */
  static int[] inner(int origin, int[] path, int next, int preference) {
    return join(outer(origin, path, next), attribute(5, preference));
  }

  static int[] plain(int p) {
    return outer(0, path(200 + p), 30 + p);
  }
}
