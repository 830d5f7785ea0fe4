import java.util.ArrayList;
import java.util.List;
import java.util.function.Consumer;

/** The state behind each refused call: the same as that of a twin that was not asked. */
final class EdgeRefusals {
  private static final int STATES = 5;
  private static final int[][] PREFIXES = {{0, 0}, {4, 160}, {8, 165}, {8, 11}};

  private static final List<String> names = new ArrayList<>();
  private static final List<Consumer<RouteSpeaker>> calls = new ArrayList<>();

  private EdgeRefusals() {}

  static void run() {
    Sentences.holds("A method that throws changes nothing.", EdgeRefusals::nothingIsChanged);
  }

  private static void nothingIsChanged() {
    ofPeers();
    ofPrefixes();
    ofBytes();
    int[] refused = new int[calls.size()];
    for (int state = 0; state < STATES; state++) {
      for (int k = 0; k < calls.size(); k++) {
        refused[k] += isRefused(inState(state), calls.get(k)) ? 1 : 0;
      }
      for (int p = 0; p < 4; p++) {
        compare(state, p);
      }
    }
    for (int k = 0; k < refused.length; k++) {
      Checks.same(names.get(k) + " was refused", refused[k] > 0, true);
    }
  }

  /** What is seen in a state, and then of peer p, with each of the calls that are refused there, and without. */
  private static void compare(int state, int p) {
    String before = view(inState(state));
    String later = laterView(inState(state), p);
    for (int k = 0; k < calls.size(); k++) {
      RouteSpeaker x = inState(state);
      if (isRefused(x, calls.get(k))) {
        Checks.same("state " + state + " behind " + names.get(k), view(x), before);
        Checks.same("state " + state + " long behind " + names.get(k), laterView(x, p), later);
      }
    }
  }

  /** A call that some states refuse; where it is not refused it is not looked at. */
  private static void add(String name, Consumer<RouteSpeaker> call) {
    names.add(name);
    calls.add(call);
  }

  private static boolean isRefused(RouteSpeaker x, Consumer<RouteSpeaker> call) {
    try {
      call.accept(x);
      return false;
    } catch (RuntimeException e) {
      return true;
    }
  }

  private static void ofPeers() {
    for (int p : new int[] {-1, 4}) {
      add("peer() of none", x -> x.peer(p, 0, 1));
      add("rule() of none", x -> x.rule(p, 0, 0, 1));
      add("unrule() of none", x -> x.unrule(p));
      add("outbound() of none", x -> x.outbound(p, 1, 0, 0));
      add("start() of none", x -> x.start(p));
      add("stop() of none", x -> x.stop(p));
    }
    for (int role : new int[] {-1, 3}) {
      add("peer() of role " + role, x -> x.peer(3, role, 1));
    }
    for (int network : new int[] {0, 100, 251}) {
      add("peer() of network " + network, x -> x.peer(3, 0, network));
    }
    for (int p = 0; p < 4; p++) {
      int peer = p;
      add("peer() that is not idle " + p, x -> x.peer(peer, 0, 55));
      add("peer() that is not idle, internal " + p, x -> x.peer(peer, 2, 0));
      add("rule() when it has 3 " + p, x -> x.rule(peer, 0, 0, 0));
    }
  }

  private static void ofPrefixes() {
    for (int[] no : new int[][] {{-2, 0}, {9, 0}, {0, 1}, {7, 165}, {8, 256}}) {
      add("rule() of no prefix", x -> x.rule(0, no[0], no[1], 0));
      add("outbound() of no prefix", x -> x.outbound(0, 3, no[0], no[1]));
      add("originate() of no prefix", x -> x.originate(no[0], no[1]));
      add("retract() of no prefix", x -> x.retract(no[0], no[1]));
      add("best() of no prefix", x -> x.best(no[0], no[1], 0));
      add("flaw() of no prefix", x -> x.flaw(0, no[0], no[1]));
      add("penalty() of no prefix", x -> x.penalty(0, no[0], no[1]));
    }
    for (int action : new int[] {-1, 201}) {
      add("rule() of action " + action, x -> x.rule(0, 0, 0, action));
    }
    for (int padding : new int[] {-1, 4}) {
      add("outbound() of padding " + padding, x -> x.outbound(0, padding, 0, 0));
    }
    add("originate() of a 13th", x -> x.originate(8, 200));
    add("best() of nothing", x -> x.best(8, 165, 22));
    add("best() without a route", x -> x.best(8, 77, 0));
    add("flaw() without a route", x -> x.flaw(0, 8, 77));
    add("flaw() of none", x -> x.flaw(4, 8, 165));
    add("penalty() of none", x -> x.penalty(4, 8, 165));
    add("forward() without a route", x -> x.forward(77));
    add("forward() of 256", x -> x.forward(256));
  }

  private static void ofBytes() {
    for (int n : new int[] {-1, 0, 9}) {
      for (int p = 0; p < 4; p++) {
        int peer = p;
        add("feed() of " + n + " bytes from " + p, x -> x.feed(peer, 0x0204020402040204L, n));
      }
    }
    add("feed() of none", x -> x.feed(4, 0x0204L, 2));
    add("take() of none", x -> x.take(-1));
    for (int p = 0; p < 4; p++) {
      int peer = p;
      add("take() of nothing " + p, x -> x.take(peer));
    }
  }

  /** One of the states that the refused calls are tried in. */
  private static RouteSpeaker inState(int state) {
    RouteSpeaker x = new RouteSpeaker();
    if (state == 1) {
      x.start(0);
      x.feed(0, 0x0601L, 2);
      Checks.agree(x, 1, 201, 5, 21);
      x.feed(1, 0x02L, 1);
      Checks.up(x, 2, 202, 22);
      x.feed(2, 0x0902L, 2);
    } else if (state > 1) {
      inUse(x);
    }
    if (state == 3) {
      for (int p = 0; p < 4; p++) {
        x.rule(p, 4, 160, 120);
        x.rule(p, 8, 11, 0);
        x.rule(p, 8, 12, 3);
      }
      x.stop(0);
      x.start(3);
    } else if (state == 4) {
      for (int p = 0; p < 4; p++) {
        x.outbound(p, 0, 0, 0);
      }
      for (int i = 0; i < 9; i++) {
        x.originate(8, i);
      }
    }
    return x;
  }

  private static void inUse(RouteSpeaker x) {
    x.peer(1, 1, 0);
    x.peer(2, 2, 0);
    Checks.up(x, 0, 200, 20);
    Checks.up(x, 1, 100, 21);
    Checks.up(x, 2, 100, 22);
    x.outbound(0, 2, 8, 11);
    Checks.announce(x, 0, Checks.plain(0), 8, 165);
    Checks.announce(x, 0, Checks.outer(0, Checks.path(200), 44), 8, 165);
    Checks.announce(x, 1, Checks.inner(0, Checks.path(5), 31, 90), 4, 160);
    x.originate(8, 11);
    for (int p = 0; p < 3; p++) {
      Checks.sent(x, p);
    }
    x.feed(0, 0x0F02L, 2);
    x.feed(1, 0x02L, 1);
  }

  /** All that can be seen. */
  private static String view(RouteSpeaker x) {
    StringBuilder text = new StringBuilder();
    for (int p = 0; p < 4; p++) {
      for (int what = 0; what <= 6; what++) {
        text.append(x.session(p, what)).append(' ');
      }
    }
    text.append(x.known());
    for (int[] prefix : PREFIXES) {
      for (int what : new int[] {0, 1, 3, 4, 7}) {
        text.append(' ').append(Checks.outcome(() -> x.best(prefix[0], prefix[1], what)));
      }
      for (int p = 0; p < 3; p++) {
        int peer = p;
        text.append(' ').append(Checks.outcome(() -> x.flaw(peer, prefix[0], prefix[1])));
        text.append(' ').append(x.penalty(p, prefix[0], prefix[1]));
      }
    }
    return text.append(' ').append(Checks.outcome(() -> x.forward(165))).toString();
  }

  /** What is seen when more was done with peer p, by which what was hidden shows. */
  private static String laterView(RouteSpeaker x, int p) {
    StringBuilder text = new StringBuilder();
    text.append(x.tick());
    // The rest of what had come, how many rules there are, what was sent.
    x.feed(p, 0x04L, 1);
    text.append(' ').append(x.session(p, 0)).append(x.session(p, 6));
    for (int k = 0; k < 3; k++) {
      text.append(' ').append(Checks.outcome(() -> Checks.done(() -> x.rule(p, 8, 11, 5))));
    }
    text.append(java.util.Arrays.toString(Checks.sent(x, p)));
    // The role and the network, the padding, for what it is mute.
    x.stop(p);
    Checks.agree(x, p, 200 + p, 9, 30 + p);
    text.append(x.session(p, 0));
    Checks.agree(x, p, 100, 9, 30 + p);
    text.append(x.session(p, 0));
    x.feed(p, 0x0204L, 2);
    for (int length = 8; length >= 4; length -= 4) {
      int inner = length;
      text.append(' ').append(Checks.outcome(() -> x.originate(inner, 160)));
      text.append(java.util.Arrays.toString(Checks.sent(x, p)));
    }
    return text.append(' ').append(view(x)).toString();
  }
}
