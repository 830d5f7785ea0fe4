/** The sentences about the policy and the best route. */
final class EdgeRoutes {
  private static final int[] NONE = Checks.NOTHING;

  private EdgeRoutes() {}

  static void run() {
    Sentences.holds("A peer has at most 3 RULES for what comes in: a prefix, and an ACTION: 0 to reject, "
        + "1 .. 200 the preference to take.", EdgeRoutes::rules);
    Sentences.holds("The first one within whose prefix the route's is counts.", EdgeRoutes::firstRule);
    Sentences.holds("Without one an external route has the preference 100, an internal one its PREFERENCE.",
        EdgeRoutes::withoutRule);
    Sentences.holds("And it has a PADDING, 0 .. 3,", EdgeRoutes::padding);
    Sentences.holds("and may be MUTE for a prefix and all within it.", EdgeRoutes::mute);
    Sentences.holds("All this counts at once, also for routes that are there.", EdgeRoutes::atOnce);
    Sentences.holds("The BEST route to a prefix: of those that are there, not barred, not damped and not rejected,",
        EdgeRoutes::thoseThatCount);
    Sentences.holds("and the speaker's own, if it ORIGINATES the prefix (preference 100, ORIGIN 0, an empty PATH, "
        + "NEXT 7, no METRIC):", EdgeRoutes::own);
    Sentences.holds("only these go on, one test after the other:", EdgeRoutes::onlyTheseGoOn);
    Sentences.holds("the greatest preference;", EdgeRoutes::greatestPreference);
    Sentences.holds("the shortest PATH;", EdgeRoutes::shortestPath);
    Sentences.holds("the least ORIGIN;", EdgeRoutes::leastOrigin);
    Sentences.holds("those that have no other one left whose PATH begins with the same network (or is empty likewise, "
        + "as the own one's is) and whose METRIC is less (none counts as 0);", EdgeRoutes::metric);
    Sentences.holds("if the own or an external one is left, these alone;", EdgeRoutes::outsideAlone);
    Sentences.holds("the least SOURCE, or without one the ID of the peer (the own: 7);", EdgeRoutes::leastSource);
    Sentences.holds("the fewest CLUSTERS;", EdgeRoutes::fewestClusters);
    Sentences.holds("the own, or else the least peer.", EdgeRoutes::ownOrLeastPeer);
  }

  private static int[] with(int[] attributes, int... more) {
    return Checks.join(attributes, more);
  }

  private static int[] inner(int... path) {
    return Checks.inner(0, Checks.path(path), 30, 100);
  }

  private static int[] innerWithMetric(int metric, int... path) {
    return Checks.join(Checks.attribute(1, 0), Checks.path(path), Checks.attribute(3, 30),
        Checks.attribute(4, metric), Checks.attribute(5, 100));
  }

  private static void best(String what, RouteSpeaker x, int due) {
    Checks.same(what, x.best(8, 9, 0), due);
  }

  private static void rules() {
    RouteSpeaker x = Checks.allUp();
    Checks.announce(x, 0, Checks.plain(0), 8, 9);
    for (int action : new int[] {0, 1, 199, 200}) {
      x.unrule(0);
      x.rule(0, 8, 9, action);
      Checks.same("rejected with " + action, x.flaw(0, 8, 9), action == 0 ? 4 : 0);
      Checks.same("the preference of " + action, Checks.outcome(() -> x.best(8, 9, 1)),
          action == 0 ? "NoSuchElementException" : "" + action);
    }
    for (int action : new int[] {-1, 201, Integer.MIN_VALUE, Integer.MAX_VALUE}) {
      Checks.refused("action " + action, Checks.ILLEGAL_ARGUMENT, () -> x.rule(1, 8, 9, action));
    }
    for (int p = 0; p < 4; p++) {
      int peer = p;
      x.unrule(p);
      for (int k = 1; k <= 3; k++) {
        x.rule(p, 8, k, 50 + k);
      }
      Checks.refused("a fourth rule", Checks.ILLEGAL_STATE, () -> x.rule(peer, 8, 9, 4));
    }
    Checks.same("it does not count", x.best(8, 9, 1), 100);
    Checks.announce(x, 0, Checks.plain(0), 8, 1, 8, 2, 8, 3);
    Checks.row("the three do", Checks.ints(x.best(8, 1, 1), x.best(8, 2, 1), x.best(8, 3, 1)), 51, 52, 53);
  }

  private static void firstRule() {
    int[][] orders = {{8, 4, 0}, {0, 4, 8}, {4, 8, 0}};
    int[] dues = {8, 1, 4};
    for (int k = 0; k < 3; k++) {
      RouteSpeaker x = Checks.allUp();
      Checks.announce(x, 0, Checks.plain(0), 8, 165);
      for (int length : orders[k]) {
        x.rule(0, length, length == 0 ? 0 : length == 4 ? 160 : 165, Math.max(1, length));
      }
      Checks.same("order " + k, x.best(8, 165, 1), dues[k]);
    }
    RouteSpeaker x = Checks.allUp();
    Checks.announce(x, 0, Checks.plain(0), 4, 160, 3, 160, 8, 175, 8, 176);
    x.rule(0, 4, 160, 0);
    x.rule(0, 4, 160, 50);
    Checks.row("itself, a shorter one, the last of it, the first behind it", Checks.ints(x.flaw(0, 4, 160),
        x.flaw(0, 3, 160), x.flaw(0, 8, 175), x.flaw(0, 8, 176)), 4, 0, 4, 0);
  }

  private static void withoutRule() {
    for (int preference : new int[] {0, 1, 99, 100, 201, 255}) {
      RouteSpeaker x = Checks.allUp(0, 1, 2, 0);
      x.rule(0, 8, 8, 0);
      x.rule(3, 0, 0, 0);
      for (int p = 0; p < 3; p++) {
        Checks.announce(x, p, with(Checks.plain(p), 5, 1, preference), 8, p + 1);
      }
      Checks.row("external, client, fellow", Checks.ints(x.best(8, 1, 1), x.best(8, 2, 1), x.best(8, 3, 1)),
          100, preference, preference);
      for (int p = 0; p < 3; p++) {
        Checks.same("none of them is rejected", x.flaw(p, 8, p + 1), 0);
      }
    }
  }

  private static void padding() {
    RouteSpeaker x = Checks.allUp();
    x.originate(8, 9);
    Checks.row("at first 0", Checks.sent(x, 0), Checks.toldOut(NONE, 8, 9));
    for (int padding = 3; padding >= 0; padding--) {
      x.outbound(0, padding, -1, 0);
      int[] more = new int[padding];
      java.util.Arrays.fill(more, 100);
      Checks.row("padding " + padding, Checks.sent(x, 0), Checks.toldOut(more, 8, 9));
    }
    for (int padding : new int[] {-1, 4, Integer.MIN_VALUE, Integer.MAX_VALUE}) {
      Checks.refused("padding " + padding, Checks.ILLEGAL_ARGUMENT, () -> x.outbound(0, padding, -1, 0));
    }
    Checks.sent(x, 1);
    x.outbound(0, 2, -1, 0);
    Checks.row("not another peer's", Checks.sent(x, 1));
  }

  private static void mute() {
    for (int length = 0; length <= 8; length++) {
      RouteSpeaker x = Checks.allUp();
      int address = 0xA5 >> (8 - length) << (8 - length);
      x.outbound(0, 0, length, address);
      for (int inner = 0; inner <= 8; inner++) {
        int part = 0xA5 >> (8 - inner) << (8 - inner);
        x.originate(inner, part);
        Checks.row("mute for " + length + ", " + inner + " is told", Checks.sent(x, 0),
            inner >= length ? NONE : Checks.toldOut(NONE, inner, part));
        x.retract(inner, part);
        Checks.sent(x, 0);
      }
      if (length > 0) {
        int beside = address ^ 256 >> length;
        x.originate(length, beside);
        Checks.row("the one beside it is told", Checks.sent(x, 0), Checks.toldOut(NONE, length, beside));
      }
    }
  }

  private static void atOnce() {
    RouteSpeaker x = Checks.allUp();
    Checks.announce(x, 0, Checks.plain(0), 8, 9);
    int[] told = Checks.toldOut(Checks.ints(200), 8, 9);
    Checks.sent(x, 1);
    x.rule(0, 0, 0, 0);
    Checks.same("a rule: flaw", x.flaw(0, 8, 9), 4);
    Checks.row("a rule", Checks.sent(x, 1), Checks.untold(8, 9));
    x.unrule(0);
    Checks.same("no rule: flaw", x.flaw(0, 8, 9), 0);
    Checks.row("no rule", Checks.sent(x, 1), told);
    x.outbound(1, 0, 8, 9);
    Checks.row("mute", Checks.sent(x, 1), Checks.untold(8, 9));
    x.outbound(1, 1, 8, 8);
    Checks.row("mute for another one, and a padding", Checks.sent(x, 1),
        Checks.toldOut(Checks.ints(100, 200), 8, 9));
    x.outbound(1, 1, 8, 8);
    Checks.row("the same again", Checks.sent(x, 1));
    Checks.announce(x, 2, Checks.outer(0, Checks.path(202, 5), 30), 8, 9);
    x.rule(2, 8, 9, 101);
    best("a preference", x, 2);
    Checks.row("of a rule", Checks.sent(x, 1), Checks.toldOut(Checks.ints(100, 202, 5), 8, 9));
  }

  private static void thoseThatCount() {
    RouteSpeaker x = Checks.allUp(1, 1, 0, 0);
    Checks.refused("none", Checks.NO_ELEMENT, () -> x.best(8, 9, 0));
    Checks.announce(x, 3, Checks.outer(2, Checks.path(203, 1, 2, 3, 4, 5, 6, 7), 30), 8, 9);
    best("the one that is there", x, 3);
    Checks.announce(x, 0, with(inner(), 9, 1, 7), 8, 9);
    best("not one that is barred", x, 3);
    Checks.announce(x, 1, inner(), 8, 9);
    x.rule(1, 8, 9, 0);
    best("nor one that is rejected", x, 3);
    for (int k = 0; k < 6; k++) {
      Checks.announce(x, 2, Checks.outer(0, Checks.path(202), 30 + k), 8, 9);
    }
    Checks.same("damped", x.flaw(2, 8, 9), 2);
    best("nor one that is damped", x, 3);
    x.stop(3);
    Checks.refused("none counts", Checks.NO_ELEMENT, () -> x.best(8, 9, 0));
    x.unrule(1);
    best("no longer rejected", x, 1);
  }

  private static void own() {
    RouteSpeaker x = new RouteSpeaker();
    x.originate(8, 9);
    int[] dues = {4, 100, 0, 0, 7, -1, 0, 0, 0, 0, 0, 0, 0, 0, 0, 0, 0, 0, 0, 0, 0, 0};
    for (int what = 0; what <= 21; what++) {
      Checks.same("what = " + what, x.best(8, 9, what), dues[what]);
    }
    for (int p = 0; p < 4; p++) {
      x.rule(p, 0, 0, 0);
    }
    best("no rule is for it", x, Checks.OWN);
    x.retract(8, 9);
    Checks.refused("not originated", Checks.NO_ELEMENT, () -> x.best(8, 9, 0));
  }

  private static void onlyTheseGoOn() {
    // Peer 1 is out by its PATH, and so its METRIC beats no one.
    RouteSpeaker x = Checks.allUp(1, 1, 1, 0);
    Checks.announce(x, 0, with(innerWithMetric(9, 5), 9, 1, 3), 8, 9);
    Checks.announce(x, 1, with(innerWithMetric(0, 5, 5), 9, 1, 1), 8, 9);
    Checks.announce(x, 2, with(innerWithMetric(9, 6), 9, 1, 4), 8, 9);
    best("out by its PATH", x, 0);
    // Peer 0 is out by the METRIC of 2, which is out as an internal one then.
    RouteSpeaker y = Checks.allUp(0, 0, 1, 0);
    Checks.announce(y, 0, with(Checks.outer(0, Checks.path(200), 30), 4, 1, 2), 8, 9);
    Checks.announce(y, 1, Checks.outer(0, Checks.path(201), 30), 8, 9);
    Checks.announce(y, 2, innerWithMetric(1, 200), 8, 9);
    best("out by a METRIC, though its ID is the least", y, 1);
    y.stop(1);
    best("and though it is the external one", y, 2);
  }

  private static void greatestPreference() {
    for (int preference : new int[] {0, 99, 101, 255}) {
      RouteSpeaker x = Checks.allUp(0, 1, 0, 0);
      Checks.announce(x, 0, Checks.plain(0), 8, 9);
      Checks.announce(x, 1, Checks.inner(2, Checks.path(1, 2, 3, 4, 5, 6, 8, 9), 30, preference), 8, 9);
      best(preference + " and 100", x, preference > 100 ? 1 : 0);
      x.originate(8, 9);
      best(preference + " and the own 100", x, preference > 100 ? 1 : Checks.OWN);
    }
    RouteSpeaker x = Checks.allUp(0, 1, 0, 0);
    Checks.announce(x, 0, Checks.plain(0), 8, 9);
    x.rule(0, 0, 0, 1);
    Checks.announce(x, 1, Checks.inner(2, Checks.path(1, 2), 30, 0), 8, 9);
    best("1 and 0", x, 0);
    x.unrule(0);
    x.rule(0, 0, 0, 200);
    Checks.announce(x, 1, Checks.inner(2, Checks.path(1, 2), 30, 201), 8, 9);
    best("200 and 201", x, 1);
  }

  private static void shortestPath() {
    RouteSpeaker x = Checks.allUp();
    Checks.announce(x, 0, Checks.outer(0, Checks.path(200, 1, 2, 3, 4, 5, 6, 7), 30), 8, 9);
    Checks.announce(x, 1, Checks.outer(2, Checks.path(201, 1, 2, 3, 4, 5, 6), 30), 8, 9);
    best("7 and 8", x, 1);
    Checks.announce(x, 2, Checks.outer(2, Checks.path(202, 202), 30), 8, 9);
    best("the same one twice counts twice", x, 2);
    Checks.announce(x, 3, Checks.outer(2, Checks.path(203), 30), 8, 9);
    best("1 and 2", x, 3);
    x.originate(8, 9);
    best("the own one's is empty", x, Checks.OWN);
  }

  private static void leastOrigin() {
    RouteSpeaker x = Checks.allUp();
    for (int p = 0; p < 3; p++) {
      Checks.announce(x, p, with(Checks.outer(2 - p, Checks.path(200 + p), 30), 4, 1, 100 * p), 8, 9);
      best("ORIGIN " + (2 - p), x, p);
    }
    RouteSpeaker y = Checks.allUp(1, 0, 0, 0);
    y.originate(8, 9);
    Checks.announce(y, 0, Checks.inner(0, Checks.path(), 30, 100), 8, 9);
    best("the own 0 and 0", y, Checks.OWN);
    y.rule(0, 0, 0, 101);
    best("but for the preference", y, 0);
  }

  private static void metric() {
    int[][] cases = {{0, 1, 0}, {1, 0, 1}, {254, 255, 0}, {255, 254, 1}, {5, 5, 0}, {-1, 0, 0}, {0, -1, 0},
        {-1, 1, 0}, {1, -1, 1}};
    for (int[] c : cases) {
      for (int[] path : new int[][] {{5}, {}}) {
        RouteSpeaker x = Checks.allUp(1, 2, 0, 0);
        Checks.announce(x, 0, c[0] < 0 ? inner(path) : innerWithMetric(c[0], path), 8, 9);
        Checks.announce(x, 1, c[1] < 0 ? inner(path) : innerWithMetric(c[1], path), 8, 9);
        best(c[0] + " and " + c[1] + " of the same network, or of none", x, c[2]);
      }
      RouteSpeaker x = Checks.allUp(1, 2, 0, 0);
      Checks.announce(x, 0, c[0] < 0 ? inner(5) : innerWithMetric(c[0], 5), 8, 9);
      Checks.announce(x, 1, c[1] < 0 ? inner(6) : innerWithMetric(c[1], 6), 8, 9);
      best(c[0] + " and " + c[1] + " of other networks", x, 0);
    }
    RouteSpeaker x = Checks.allUp(1, 2, 1, 0);
    Checks.announce(x, 0, with(innerWithMetric(9, 5, 1), 9, 1, 1), 8, 9);
    Checks.announce(x, 1, with(innerWithMetric(8, 5, 2), 9, 1, 2), 8, 9);
    Checks.announce(x, 2, with(innerWithMetric(7, 5, 3), 9, 1, 3), 8, 9);
    best("the least of three that begin alike", x, 2);
    RouteSpeaker y = Checks.allUp(1, 2, 0, 0);
    Checks.announce(y, 0, innerWithMetric(1, 6), 8, 9);
    Checks.announce(y, 1, innerWithMetric(1, 5), 8, 9);
    Checks.announce(y, 0, innerWithMetric(1), 8, 9);
    Checks.announce(y, 1, innerWithMetric(0), 8, 9);
    best("empty ones where others were before", y, 1);
    x.originate(8, 8);
    Checks.announce(x, 0, with(innerWithMetric(1), 9, 1, 1), 8, 8);
    Checks.announce(x, 1, with(innerWithMetric(0), 9, 1, 2), 8, 8);
    Checks.same("the own one has none, and is empty likewise", x.best(8, 8, 0), Checks.OWN);
  }

  private static void outsideAlone() {
    RouteSpeaker x = Checks.allUp(1, 2, 0, 0);
    Checks.announce(x, 0, with(inner(1), 9, 1, 1), 8, 9);
    Checks.announce(x, 1, with(inner(2), 9, 1, 2), 8, 9);
    best("internal ones alone", x, 0);
    Checks.announce(x, 2, Checks.outer(0, Checks.path(202), 30), 8, 9);
    best("an external one", x, 2);
    Checks.announce(x, 3, Checks.outer(0, Checks.path(203), 30), 8, 9);
    best("two external ones", x, 2);
    RouteSpeaker y = Checks.allUp(1, 2, 0, 0);
    Checks.announce(y, 0, with(inner(), 9, 1, 1), 8, 9);
    best("an internal one of an empty PATH", y, 0);
    y.originate(8, 9);
    best("the own", y, Checks.OWN);
  }

  private static void leastSource() {
    int[][] cases = {{1, 2, 0}, {2, 1, 1}, {249, 250, 0}, {250, 249, 1}, {0, 21, 0}, {0, 20, 0}, {0, 19, 1}, {20, 0, 0},
        {21, 0, 1}, {22, 0, 1}, {0, 0, 0}};
    for (int[] c : cases) {
      RouteSpeaker x = Checks.allUp(1, 2, 0, 0);
      Checks.announce(x, 0, c[0] == 0 ? inner(1) : with(inner(1), 9, 1, c[0], 10, 2, 1, 2), 8, 9);
      Checks.announce(x, 1, c[1] == 0 ? inner(2) : with(inner(2), 9, 1, c[1]), 8, 9);
      best("SOURCE " + c[0] + " or ID 20, SOURCE " + c[1] + " or ID 21", x, c[2]);
    }
    for (int id : new int[] {1, 6, 8, 250}) {
      RouteSpeaker x = new RouteSpeaker();
      Checks.up(x, 0, 200, 7 + (id + 1) % 3 + 1);
      Checks.up(x, 1, 201, id);
      Checks.announce(x, 0, Checks.plain(0), 8, 9);
      Checks.announce(x, 1, Checks.plain(1), 8, 9);
      best("IDs " + x.session(0, 4) + " and " + id, x, id < x.session(0, 4) ? 1 : 0);
    }
  }

  private static void fewestClusters() {
    for (int count = 0; count < 6; count++) {
      RouteSpeaker x = Checks.allUp(1, 2, 0, 0);
      int[] many = new int[count + 1];
      int[] few = new int[count];
      java.util.Arrays.fill(many, 1);
      java.util.Arrays.fill(few, 250);
      Checks.announce(x, 0, with(with(inner(1), 9, 1, 5), Checks.attribute(10, many)), 8, 9);
      Checks.announce(x, 1, with(with(inner(2), 9, 1, 5), Checks.attribute(10, few)), 8, 9);
      best(count + " and one more", x, 1);
      Checks.announce(x, 0, with(with(inner(1), 9, 1, 5), Checks.attribute(10, few)), 8, 9);
      best(count + " each", x, 0);
    }
    RouteSpeaker x = Checks.allUp(1, 2, 0, 0);
    Checks.announce(x, 1, with(inner(2), 9, 1, 5), 8, 9);
    Checks.announce(x, 0, with(inner(1), 9, 1, 5, 10, 0), 8, 9);
    best("none, and none in them", x, 0);
  }

  private static void ownOrLeastPeer() {
    RouteSpeaker x = new RouteSpeaker();
    for (int p = 3; p >= 0; p--) {
      Checks.up(x, p, 200 + p, 20);
      Checks.announce(x, p, Checks.plain(p), 8, 9);
      best("all the same, but for the number", x, p);
    }
    x.originate(8, 9);
    best("the own", x, Checks.OWN);
    for (int p = 0; p < 4; p++) {
      x.retract(8, 9);
      best("the least that is left", x, p);
      x.stop(p);
    }
  }
}
