/** Promises 14 to 17: best, flaw, penalty, forward. */
final class RouteTest {
  public static void main(String[] args) {
    wrongArguments();
    detailsOfExternal();
    detailsOfInternal();
    barred();
    rejected();
    withoutRule();
    greatestPreference();
    shortestPath();
    leastOrigin();
    metricOfTheSameNetwork();
    metricOfEmptyPaths();
    metricBeforeOutside();
    outsideAlone();
    leastSource();
    fewestClusters();
    ownOrLeastPeer();
    testsOneAfterTheOther();
    penaltyGrows();
    penaltyOfTheSame();
    penaltyOfWhatMatters();
    penaltyDecays();
    dampedByChange();
    dampedByWithdrawing();
    dampedNearTheBounds();
    dampedStays();
    penaltyStays();
    forwarding();
    Checks.finish();
  }

  private static void wrongArguments() {
    RouteSpeaker x = Checks.allUp();
    x.originate(0, 0);
    int[][] wrongs = {{-1, 0}, {9, 0}, {0, 1}, {4, 8}, {8, 256}, {8, -1}};
    for (int[] w : wrongs) {
      String name = w[0] + ", " + w[1];
      Checks.fails("best " + name, Checks.ILLEGAL_ARGUMENT, () -> x.best(w[0], w[1], 0));
      Checks.fails("flaw " + name, Checks.ILLEGAL_ARGUMENT, () -> x.flaw(0, w[0], w[1]));
      Checks.fails("penalty " + name, Checks.ILLEGAL_ARGUMENT, () -> x.penalty(0, w[0], w[1]));
    }
    for (int p : new int[] {-1, 4}) {
      Checks.fails("flaw " + p, Checks.ILLEGAL_ARGUMENT, () -> x.flaw(p, 0, 0));
      Checks.fails("penalty " + p, Checks.ILLEGAL_ARGUMENT, () -> x.penalty(p, 0, 0));
    }
    for (int what : new int[] {-1, 22, Integer.MAX_VALUE}) {
      Checks.fails("best " + what, Checks.ILLEGAL_ARGUMENT, () -> x.best(0, 0, what));
      Checks.fails("best " + what + " without a route", Checks.ILLEGAL_ARGUMENT, () -> x.best(8, 1, what));
    }
    for (int address : new int[] {-1, 256, Integer.MIN_VALUE}) {
      Checks.fails("forward " + address, Checks.ILLEGAL_ARGUMENT, () -> x.forward(address));
    }
    Checks.fails("best of an unknown one", Checks.NO_ELEMENT, () -> x.best(8, 1, 0));
    Checks.fails("flaw of an unknown one", Checks.NO_ELEMENT, () -> x.flaw(0, 8, 1));
    Checks.same("penalty of an unknown one", x.penalty(0, 8, 1), 0.0);
    Checks.same("nothing is known by that", x.known(), 1);
  }

  private static void details(String what, RouteSpeaker x, int... dues) {
    for (int k = 0; k < dues.length; k++) {
      Checks.same(what + ": best(8, 9, " + k + ")", x.best(8, 9, k), dues[k]);
    }
  }

  private static int[] with(int[] attributes, int... more) {
    return Checks.join(attributes, more);
  }

  private static void detailsOfExternal() {
    RouteSpeaker x = Checks.allUp();
    int[] base = Checks.outer(2, Checks.path(202, 5, 6, 7, 8, 9, 10, 250), 99);
    Checks.announce(x, 2, with(base, 4, 1, 0, 5, 1, 33, 9, 1, 7, 10, 2, 7, 8), 8, 9);
    Checks.same("PREFERENCE, SOURCE and CLUSTERS don't matter", x.flaw(2, 8, 9), 0);
    details("external", x, 2, 100, 2, 8, 99, 0, 0, 0, 202, 5, 6, 7, 8, 9, 10, 250, 0, 0, 0, 0, 0, 0);
    Checks.announce(x, 2, Checks.outer(1, Checks.path(202), 98), 8, 9);
    details("a shorter one in its place", x, 2, 100, 1, 1, 98, -1, 0, 0, 202, 0, 0, 0, 0, 0, 0, 0, 0, 0, 0, 0, 0, 0);
  }

  private static void detailsOfInternal() {
    RouteSpeaker x = Checks.allUp(0, 1, 2, 0);
    int[] base = Checks.inner(1, Checks.path(), 250, 255);
    Checks.announce(x, 1, with(base, 4, 1, 255, 9, 1, 250, 10, 6, 1, 2, 3, 4, 5, 6), 8, 9);
    details("internal", x, 1, 255, 1, 0, 250, 255, 250, 6, 0, 0, 0, 0, 0, 0, 0, 0, 1, 2, 3, 4, 5, 6);
    Checks.announce(x, 1, Checks.inner(0, Checks.path(9, 8), 1, 0), 8, 9);
    details("without the rest", x, 1, 0, 0, 2, 1, -1, 0, 0, 9, 8, 0, 0, 0, 0, 0, 0, 0, 0, 0, 0, 0, 0);
    Checks.same("PREFERENCE 0 is not rejected", x.flaw(1, 8, 9), 0);
  }

  private static void barred() {
    for (int role = 0; role <= 2; role++) {
      RouteSpeaker x = Checks.allUp(role, 0, 0, 0);
      int[] pathWithOwn = Checks.inner(0, Checks.path(200, 3, 100), 30, 5);
      Checks.announce(x, 0, pathWithOwn, 8, 1);
      Checks.same("100 in the PATH", x.flaw(0, 8, 1), 1);
      int[] good = Checks.inner(0, Checks.path(200), 30, 5);
      Checks.announce(x, 0, with(good, 9, 1, 7), 8, 2);
      Checks.announce(x, 0, with(good, 10, 2, 3, 7), 8, 3);
      int due = role == 0 ? 0 : 1;
      Checks.same("SOURCE 7", x.flaw(0, 8, 2), due);
      Checks.same("7 in CLUSTERS", x.flaw(0, 8, 3), due);
      Checks.announce(x, 0, with(good, 9, 1, 8, 10, 2, 3, 100), 8, 4);
      Checks.same("neither", x.flaw(0, 8, 4), 0);
      Checks.announce(x, 0, with(good, 10, 3, 7, 1, 2), 8, 4);
      Checks.same("7 first in CLUSTERS", x.flaw(0, 8, 4), due);
      Checks.announce(x, 0, Checks.inner(0, Checks.path(role == 0 ? 200 : 100, 100), 30, 5), 8, 4);
      Checks.same("100 first in the PATH", x.flaw(0, 8, 4), 1);
      Checks.fails("not the best", Checks.NO_ELEMENT, () -> x.best(8, 1, 0));
      Checks.same("but known", x.known(), 4);
      Checks.announce(x, 0, good, 8, 1);
      Checks.same("no longer", x.flaw(0, 8, 1), 0);
    }
  }

  private static void rejected() {
    RouteSpeaker x = Checks.allUp();
    Checks.announce(x, 0, Checks.outer(0, Checks.path(200, 100), 30), 8, 9);
    x.rule(0, 8, 8, 0);
    Checks.same("a rule for another", x.flaw(0, 8, 9), 1);
    x.rule(0, 7, 8, 0);
    Checks.same("barred and rejected", x.flaw(0, 8, 9), 5);
    Checks.fails("no best", Checks.NO_ELEMENT, () -> x.best(8, 9, 1));
    x.originate(8, 9);
    Checks.same("the own is never rejected", x.best(8, 9, 0), Checks.OWN);
    Checks.withdraw(x, 0, 8, 9);
    Checks.fails("withdrawn", Checks.NO_ELEMENT, () -> x.flaw(0, 8, 9));
  }

  private static void withoutRule() {
    RouteSpeaker x = Checks.allUp(0, 1, 2, 0);
    Checks.announce(x, 0, with(Checks.plain(0), 5, 1, 250), 8, 1);
    Checks.announce(x, 1, Checks.inner(0, Checks.path(), 30, 250), 8, 2);
    Checks.announce(x, 2, Checks.inner(0, Checks.path(), 30, 1), 8, 3);
    Checks.same("external", x.best(8, 1, 1), 100);
    Checks.same("client", x.best(8, 2, 1), 250);
    Checks.same("fellow", x.best(8, 3, 1), 1);
    x.rule(1, 0, 0, 3);
    x.rule(0, 0, 0, 4);
    Checks.same("external by rule", x.best(8, 1, 1), 4);
    Checks.same("client by rule", x.best(8, 2, 1), 3);
  }

  private static void who(String what, RouteSpeaker x, int due) {
    Checks.same(what, x.best(8, 9, 0), due);
  }

  private static void greatestPreference() {
    RouteSpeaker x = Checks.allUp(0, 0, 0, 1);
    Checks.announce(x, 0, Checks.plain(0), 8, 9);
    Checks.announce(x, 1, Checks.outer(2, Checks.path(201, 2, 3, 4), 30), 8, 9);
    who("the shorter one", x, 0);
    x.rule(1, 8, 9, 101);
    who("the greater preference", x, 1);
    Checks.announce(x, 3, Checks.inner(2, Checks.path(1, 2, 3, 4, 5), 30, 102), 8, 9);
    who("an internal one's PREFERENCE", x, 3);
    x.rule(1, 8, 9, 200);
    who("the first rule counts", x, 3);
    x.unrule(1);
    x.originate(8, 9);
    who("more than the own's 100", x, 3);
    Checks.announce(x, 3, Checks.inner(2, Checks.path(1, 2, 3, 4, 5), 30, 99), 8, 9);
    who("less than it", x, Checks.OWN);
  }

  private static void shortestPath() {
    RouteSpeaker x = Checks.allUp(0, 0, 0, 1);
    Checks.announce(x, 0, Checks.outer(0, Checks.path(200, 200), 30), 8, 9);
    Checks.announce(x, 1, Checks.outer(2, Checks.path(201), 30), 8, 9);
    who("the shorter one", x, 1);
    Checks.announce(x, 3, Checks.inner(2, Checks.path(), 30, 100), 8, 9);
    who("an empty one", x, 3);
  }

  private static void leastOrigin() {
    RouteSpeaker x = Checks.allUp();
    Checks.announce(x, 0, Checks.outer(2, Checks.path(200), 30), 8, 9);
    Checks.announce(x, 1, with(Checks.outer(1, Checks.path(201), 30), 4, 1, 200), 8, 9);
    who("ORIGIN 1", x, 1);
    Checks.announce(x, 2, Checks.outer(0, Checks.path(202), 30), 8, 9);
    who("ORIGIN 0", x, 2);
  }

  private static void metricOfTheSameNetwork() {
    RouteSpeaker x = Checks.allUp(1, 1, 1, 1);
    Checks.announce(x, 0, with(Checks.inner(0, Checks.path(5, 6), 30, 9), 4, 1, 20), 8, 9);
    Checks.announce(x, 1, with(Checks.inner(0, Checks.path(5, 7), 30, 9), 4, 1, 10), 8, 9);
    who("the less METRIC", x, 1);
    Checks.announce(x, 2, with(Checks.inner(0, Checks.path(6, 5), 30, 9), 4, 1, 5), 8, 9);
    who("another network's METRIC does not count", x, 1);
    Checks.announce(x, 3, Checks.inner(0, Checks.path(5, 5), 30, 9), 8, 9);
    who("none counts as 0, and peer 1 is out by that", x, 2);
    Checks.announce(x, 0, with(Checks.inner(0, Checks.path(5, 6), 30, 9), 4, 1, 0), 8, 9);
    who("0 is the same as none", x, 0);
    Checks.announce(x, 3, with(Checks.inner(0, Checks.path(5, 5), 30, 9), 9, 1, 1), 8, 9);
    who("none is the same as 0", x, 3);
    Checks.announce(x, 0, with(Checks.inner(0, Checks.path(5, 6), 30, 9), 4, 1, 1), 8, 9);
    Checks.announce(x, 3, with(Checks.inner(0, Checks.path(5, 5), 30, 9), 9, 1, 200), 8, 9);
    x.stop(2);
    who("and less than 1", x, 3);
  }

  private static void metricOfEmptyPaths() {
    RouteSpeaker x = Checks.allUp(1, 2, 0, 0);
    Checks.announce(x, 0, with(Checks.inner(0, Checks.path(), 30, 9), 4, 1, 2), 8, 9);
    Checks.announce(x, 1, with(Checks.inner(0, Checks.path(), 30, 9), 4, 1, 1), 8, 9);
    who("empty ones are likewise", x, 1);
    Checks.announce(x, 0, with(Checks.inner(0, Checks.path(), 30, 100), 9, 1, 1), 8, 9);
    Checks.announce(x, 0, with(Checks.inner(0, Checks.path(3), 30, 100), 4, 1, 1), 8, 9);
    Checks.announce(x, 1, with(Checks.inner(0, Checks.path(4), 30, 100), 4, 1, 1), 8, 9);
    Checks.announce(x, 0, with(Checks.inner(0, Checks.path(), 30, 100), 4, 1, 1), 8, 9);
    Checks.announce(x, 1, with(Checks.inner(0, Checks.path(), 30, 100), 4, 1, 0), 8, 9);
    who("whatever their earlier ones began with", x, 1);
    Checks.announce(x, 0, with(Checks.inner(0, Checks.path(), 30, 100), 9, 1, 1), 8, 9);
    x.originate(8, 9);
    who("the own is left", x, Checks.OWN);
    Checks.announce(x, 0, with(Checks.inner(0, Checks.path(), 30, 100), 4, 1, 1, 9, 1, 1), 8, 9);
    who("the own has none", x, Checks.OWN);
  }

  private static void metricBeforeOutside() {
    RouteSpeaker x = Checks.allUp(0, 1, 0, 0);
    Checks.announce(x, 0, with(Checks.outer(0, Checks.path(200), 30), 4, 1, 2), 8, 9);
    Checks.announce(x, 1, with(Checks.inner(0, Checks.path(200), 30, 100), 4, 1, 1), 8, 9);
    who("the internal one's METRIC is less", x, 1);
    Checks.announce(x, 1, with(Checks.inner(0, Checks.path(200), 30, 100), 4, 1, 2, 9, 1, 1), 8, 9);
    who("the same METRIC", x, 0);
  }

  private static void outsideAlone() {
    RouteSpeaker x = Checks.allUp(1, 2, 0, 0);
    Checks.announce(x, 0, with(Checks.inner(0, Checks.path(9), 30, 100), 9, 1, 1), 8, 9);
    Checks.announce(x, 2, Checks.outer(0, Checks.path(202), 30), 8, 9);
    who("an external one", x, 2);
    Checks.announce(x, 3, with(Checks.outer(0, Checks.path(203), 30), 9, 1, 1), 8, 9);
    who("the less ID, no SOURCE", x, 2);
    x.stop(2);
    who("the other external one", x, 3);
    x.stop(3);
    who("an internal one", x, 0);
    Checks.announce(x, 1, with(Checks.inner(0, Checks.path(8), 30, 100), 9, 1, 2), 8, 9);
    who("the least SOURCE of internal ones", x, 0);
  }

  private static void leastSource() {
    RouteSpeaker x = Checks.allUp(1, 1, 1, 1);
    int[] base = Checks.inner(0, Checks.path(), 30, 9);
    Checks.announce(x, 3, base, 8, 9);
    Checks.announce(x, 2, with(base, 9, 1, 24), 8, 9);
    who("an ID of 23 is less than a SOURCE of 24", x, 3);
    Checks.announce(x, 2, with(base, 9, 1, 22, 10, 3, 1, 2, 3), 8, 9);
    who("a SOURCE of 22 is less", x, 2);
    Checks.announce(x, 1, with(base, 9, 1, 23), 8, 9);
    who("the SOURCE counts, not the ID", x, 2);
    RouteSpeaker y = Checks.allUp(0, 0, 0, 0);
    y.stop(0);
    Checks.up(y, 0, 200, 6);
    Checks.announce(y, 0, Checks.plain(0), 8, 9);
    Checks.announce(y, 1, Checks.plain(1), 8, 9);
    who("the less ID", y, 0);
    y.stop(0);
    Checks.up(y, 0, 200, 250);
    Checks.announce(y, 0, Checks.plain(0), 8, 9);
    who("the ID of this session", y, 1);
  }

  private static void fewestClusters() {
    RouteSpeaker x = Checks.allUp(1, 1, 1, 0);
    int[] base = Checks.inner(0, Checks.path(), 30, 9);
    Checks.announce(x, 0, with(base, 9, 1, 5, 10, 2, 1, 2), 8, 9);
    Checks.announce(x, 1, with(base, 9, 1, 5, 10, 1, 99), 8, 9);
    who("one is fewer than two", x, 1);
    Checks.announce(x, 2, with(base, 9, 1, 5), 8, 9);
    who("none is fewest", x, 2);
    Checks.announce(x, 1, with(base, 9, 1, 5, 10, 0), 8, 9);
    who("none of them is the same", x, 1);
  }

  private static void ownOrLeastPeer() {
    RouteSpeaker x = Checks.allUp();
    for (int p = 3; p >= 1; p--) {
      x.stop(p);
      Checks.up(x, p, 200 + p, 8);
      Checks.announce(x, p, Checks.plain(p), 8, 9);
      who("the least peer", x, p);
    }
  }

  private static void testsOneAfterTheOther() {
    // 0 loses by its METRIC to 1, and 1 by being internal to 2.
    RouteSpeaker x = Checks.allUp(1, 1, 0, 0);
    Checks.announce(x, 0, with(Checks.inner(0, Checks.path(5), 30, 100), 4, 1, 9, 9, 1, 1), 8, 9);
    Checks.announce(x, 1, with(Checks.inner(0, Checks.path(5), 30, 100), 4, 1, 8, 9, 1, 2), 8, 9);
    Checks.announce(x, 2, with(Checks.outer(0, Checks.path(202), 30), 4, 1, 255), 8, 9);
    who("outside goes before SOURCE", x, 2);
    // One that is out by its PATH beats no one by its METRIC.
    Checks.announce(x, 1, with(Checks.inner(0, Checks.path(5, 5), 30, 100), 4, 1, 0, 9, 1, 2), 8, 9);
    x.stop(2);
    who("only those left are compared", x, 0);
  }

  private static int[] route(int next) {
    return Checks.outer(0, Checks.path(200), next);
  }

  private static void penaltyGrows() {
    RouteSpeaker x = Checks.allUp();
    Checks.announce(x, 0, route(30), 8, 9);
    Checks.same("nothing for coming", x.penalty(0, 8, 9), 0.0);
    Checks.announce(x, 0, route(31), 8, 9);
    Checks.same("500 for another one in its place", x.penalty(0, 8, 9), 500.0);
    Checks.withdraw(x, 0, 8, 9);
    Checks.same("1000 for going", x.penalty(0, 8, 9), 1500.0);
    Checks.withdraw(x, 0, 8, 9);
    Checks.same("nothing when none is there", x.penalty(0, 8, 9), 1500.0);
    Checks.announce(x, 0, route(30), 8, 9);
    Checks.same("nothing for coming again", x.penalty(0, 8, 9), 1500.0);
    Checks.same("not of another peer", x.penalty(1, 8, 9), 0.0);
    Checks.announce(x, 0, route(30), 8, 10);
    Checks.same("nor for another prefix", x.penalty(0, 8, 10), 0.0);
    Checks.feed(x, 0, Checks.update(Checks.ints(8, 10, 8, 10), route(31), 8, 10, 8, 10));
    Checks.same("withdrawn once, then announced as a new one", x.penalty(0, 8, 10), 1000.0);
    Checks.same("and it is there", x.best(8, 10, 4), 31);
  }

  private static void penaltyOfTheSame() {
    RouteSpeaker x = Checks.allUp(0, 1, 0, 0);
    int[] base = Checks.outer(0, Checks.path(200, 201), 30);
    Checks.announce(x, 0, base, 8, 9);
    Checks.announce(x, 0, base, 8, 9);
    Checks.announce(x, 0, with(base, 5, 1, 3, 9, 1, 3, 10, 1, 3, 200, 1, 1), 8, 9);
    Checks.same("what does not matter of an external one", x.penalty(0, 8, 9), 0.0);
    int[] inner = Checks.inner(0, Checks.path(200), 30, 9);
    Checks.announce(x, 1, inner, 8, 9);
    Checks.announce(x, 1, with(inner, 10, 0, 250, 2, 1, 1), 8, 9);
    Checks.same("no CLUSTERS, and none in them", x.penalty(1, 8, 9), 0.0);
  }

  private static void penaltyOfWhatMatters() {
    int[] base = Checks.inner(1, Checks.path(200, 6), 30, 9);
    int[] all = with(base, 4, 1, 0, 9, 1, 5, 10, 2, 1, 2);
    int[][] others = {
        with(Checks.inner(0, Checks.path(200, 6), 30, 9), 4, 1, 0, 9, 1, 5, 10, 2, 1, 2),
        with(Checks.inner(1, Checks.path(200, 5), 30, 9), 4, 1, 0, 9, 1, 5, 10, 2, 1, 2),
        with(Checks.inner(1, Checks.path(200), 30, 9), 4, 1, 0, 9, 1, 5, 10, 2, 1, 2),
        with(Checks.inner(1, Checks.path(200, 6, 7), 30, 9), 4, 1, 0, 9, 1, 5, 10, 2, 1, 2),
        with(Checks.inner(1, Checks.path(200, 6), 31, 9), 4, 1, 0, 9, 1, 5, 10, 2, 1, 2),
        with(Checks.inner(1, Checks.path(200, 6), 30, 8), 4, 1, 0, 9, 1, 5, 10, 2, 1, 2),
        with(base, 9, 1, 5, 10, 2, 1, 2), with(base, 4, 1, 1, 9, 1, 5, 10, 2, 1, 2),
        with(base, 4, 1, 0, 10, 2, 1, 2), with(base, 4, 1, 0, 9, 1, 6, 10, 2, 1, 2),
        with(base, 4, 1, 0, 9, 1, 5), with(base, 4, 1, 0, 9, 1, 5, 10, 2, 1, 3),
        with(base, 4, 1, 0, 9, 1, 5, 10, 1, 1), with(base, 4, 1, 0, 9, 1, 5, 10, 3, 1, 2, 2),
        with(base, 4, 1, 0, 9, 1, 5, 10, 2, 2, 2)};
    changeOfTheFirstNetwork();
    // For an external peer PREFERENCE, SOURCE and CLUSTERS don't matter.
    double[] outer = {500, 500, 500, 500, 500, 0, 500, 500, 0, 0, 0, 0, 0, 0, 0};
    for (int k = 0; k < others.length; k++) {
      RouteSpeaker x = Checks.allUp(0, 1, 2, 0);
      for (int p = 0; p < 3; p++) {
        Checks.announce(x, p, all, 8, 9);
        Checks.announce(x, p, others[k], 8, 9);
        Checks.same("change " + k + " of role " + p, x.penalty(p, 8, 9), p == 0 ? outer[k] : 500.0);
      }
    }
  }

  private static void changeOfTheFirstNetwork() {
    RouteSpeaker x = Checks.allUp(1, 0, 0, 0);
    Checks.announce(x, 0, Checks.inner(0, Checks.path(5, 6), 30, 9), 8, 9);
    Checks.announce(x, 0, Checks.inner(0, Checks.path(6, 6), 30, 9), 8, 9);
    Checks.same("another first network", x.penalty(0, 8, 9), 500.0);
  }

  private static void penaltyDecays() {
    RouteSpeaker x = Checks.allUp();
    Checks.announce(x, 0, route(30), 8, 9, 8, 10);
    Checks.withdraw(x, 0, 8, 9);
    Checks.announce(x, 0, route(31), 8, 10);
    double due = 1000.0;
    for (int k = 0; k < 6; k++) {
      x.tick();
      due *= 0.875;
      Checks.same("a tick", x.penalty(0, 8, 9), due);
      Checks.same("a tick for the other", x.penalty(0, 8, 10), due / 2);
    }
  }

  private static void dampedByChange() {
    RouteSpeaker x = Checks.allUp();
    for (int k = 0; k < 5; k++) {
      Checks.announce(x, 0, route(30 + k), 8, 9);
    }
    Checks.same("2000", x.penalty(0, 8, 9), 2000.0);
    Checks.same("is not above 2000", x.flaw(0, 8, 9), 0);
    Checks.sent(x, 1);
    Checks.announce(x, 0, route(40), 8, 9);
    Checks.same("the new one is damped by that", x.flaw(0, 8, 9), 2);
    Checks.fails("not the best", Checks.NO_ELEMENT, () -> x.best(8, 9, 0));
    Checks.row("withdrawn", Checks.sent(x, 1), 6, 2, 1, 8, 9, 0);
    x.rule(0, 0, 0, 0);
    Checks.same("and rejected", x.flaw(0, 8, 9), 6);
    Checks.announce(x, 0, Checks.outer(0, Checks.path(200, 100), 30), 8, 9);
    Checks.same("and barred", x.flaw(0, 8, 9), 7);
    Checks.announce(x, 1, Checks.plain(1), 8, 9);
    Checks.same("not another peer's", x.flaw(1, 8, 9), 0);
    Checks.announce(x, 0, route(30), 8, 10);
    Checks.same("nor for another prefix", x.flaw(0, 8, 10), 4);
  }

  private static void dampedByWithdrawing() {
    RouteSpeaker x = Checks.allUp();
    for (int k = 0; k < 3; k++) {
      Checks.announce(x, 0, route(30), 8, 9);
      Checks.same("not above 2000", x.flaw(0, 8, 9), 0);
      Checks.withdraw(x, 0, 8, 9);
    }
    Checks.announce(x, 0, route(30), 8, 9);
    Checks.same("damped before it came", x.flaw(0, 8, 9), 2);
    // 3000 goes below 2000 at the fourth tick and below 750 at the eleventh.
    RouteSpeaker y = x;
    for (int k = 1; k <= 11; k++) {
      Checks.feed(y, 0, 2, 4);
      Checks.feed(y, 1, 2, 4);
      Checks.sent(y, 0);
      Checks.sent(y, 1);
      y.tick();
      Checks.same("tick " + k, y.flaw(0, 8, 9), k < 11 ? 2 : 0);
    }
    Checks.same("below 750", y.penalty(0, 8, 9) < 750.0, true);
    Checks.row("told at the end of the tick", Checks.sent(y, 1),
        16, 2, 0, 10, 1, 1, 0, 2, 2, 100, 200, 3, 1, 7, 8, 9);
  }

  /** A run of calls: c another route comes, w it goes and comes again, t a tick. */
  private static RouteSpeaker comesAndGoes(String run) {
    RouteSpeaker x = Checks.allUp();
    Checks.announce(x, 0, route(30), 8, 9);
    for (int k = 0; k < run.length(); k++) {
      if (run.charAt(k) == 't') {
        Checks.feed(x, 0, 2, 4);
        x.tick();
        Checks.sent(x, 0);
      } else if (run.charAt(k) == 'c') {
        Checks.announce(x, 0, route(31 + k), 8, 9);
      } else {
        Checks.feed(x, 0, Checks.update(Checks.ints(8, 9), route(31 + k), 8, 9));
      }
    }
    return x;
  }

  private static void dampedNearTheBounds() {
    Object[][] runs = {{"wttttwttctc", 2000.1177787780762, 2}, {"cwtctttctc", 1999.9542236328125, 0},
        {"wwcttttttttt", 751.6445033252239, 2}, {"wwctttctttttttt", 747.2822807612829, 0},
        {"cccc", 2000.0, 0}, {"ww", 2000.0, 0}, {"wwc", 2500.0, 2}};
    for (Object[] run : runs) {
      RouteSpeaker x = comesAndGoes((String) run[0]);
      Checks.same(run[0] + " penalty", x.penalty(0, 8, 9), run[1]);
      Checks.same(run[0] + " flaw", x.flaw(0, 8, 9), run[2]);
    }
  }

  private static void dampedStays() {
    RouteSpeaker x = Checks.allUp();
    for (int k = 0; k < 6; k++) {
      Checks.announce(x, 0, route(30 + k), 8, 9);
    }
    for (int k = 0; k < 5; k++) {
      x.tick();
    }
    Checks.same("still damped below 2000", x.flaw(0, 8, 9), 2);
    Checks.announce(x, 0, route(50), 8, 9);
    Checks.same("and when it grows below 2000", x.flaw(0, 8, 9), 2);
    Checks.same("penalty", x.penalty(0, 8, 9) < 2000.0, true);
  }

  private static void penaltyStays() {
    RouteSpeaker x = Checks.allUp();
    for (int k = 0; k < 6; k++) {
      Checks.announce(x, 0, route(30 + k), 8, 9);
    }
    x.stop(0);
    Checks.same("nothing for the end of the session", x.penalty(0, 8, 9), 2500.0);
    x.tick();
    Checks.same("it goes on behind it", x.penalty(0, 8, 9), 2187.5);
    Checks.up(x, 0, 200, 20);
    Checks.announce(x, 0, route(30), 8, 9);
    Checks.same("nothing for coming again", x.penalty(0, 8, 9), 2187.5);
    Checks.same("damped, too", x.flaw(0, 8, 9), 2);
  }

  private static void forwarding() {
    RouteSpeaker x = Checks.allUp();
    Checks.announce(x, 0, Checks.plain(0), 4, 160);
    Checks.announce(x, 1, Checks.plain(1), 6, 164);
    Checks.announce(x, 2, Checks.plain(2), 8, 165);
    Checks.same("8", x.forward(165), 2);
    Checks.same("6", x.forward(167), 1);
    Checks.same("4", x.forward(160), 0);
    Checks.same("the last of it", x.forward(175), 0);
    Checks.fails("before it", Checks.NO_ELEMENT, () -> x.forward(159));
    Checks.fails("behind it", Checks.NO_ELEMENT, () -> x.forward(176));
    x.originate(0, 0);
    Checks.same("the own for all", x.forward(0), Checks.OWN);
    Checks.same("the own for the last", x.forward(255), Checks.OWN);
    Checks.same("the longest, not the last known", x.forward(166), 1);
    x.rule(2, 0, 0, 0);
    Checks.same("the longest that has a best route", x.forward(165), 1);
    x.stop(1);
    Checks.same("then the next", x.forward(165), 0);
    x.retract(0, 0);
    Checks.fails("retracted", Checks.NO_ELEMENT, () -> x.forward(0));
  }
}
