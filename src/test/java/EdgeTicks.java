import java.util.Arrays;

/** The sentences about ticks, penalties and damping. */
final class EdgeTicks {
  private static final int[] NONE = Checks.NOTHING;

  private EdgeTicks() {}

  static void run() {
    Sentences.holds("A TICK: for each session that is not IDLE, by its number (in AGREED and UP not if its HOLD is 0): "
        + "the hold timer falls by 1;", EdgeTicks::falling);
    Sentences.holds("at 0: END 4, 0.", EdgeTicks::holdTimerAtZero);
    Sentences.holds("Otherwise, if it is UP, the keep timer falls by 1; at 0 KEEPALIVE is sent and it begins again.",
        EdgeTicks::keepTimerAtZero);
    Sentences.holds("Behind all sessions every penalty is multiplied by 0.875.", EdgeTicks::multiplied);
    Sentences.holds("For each prefix and peer there is a PENALTY, 0.0 at first:", EdgeTicks::atFirst);
    Sentences.holds("1000.0 more when a route that is there is withdrawn (not by the end of a session),",
        EdgeTicks::withdrawn);
    Sentences.holds("500.0 more when one comes in place of another one that is not the same (in what of it matters;",
        EdgeTicks::replaced);
    Sentences.holds("the new one may be DAMPED by that).", EdgeTicks::newOneDamped);
    Sentences.holds("When the penalty is above 2000.0, the routes of this peer to this prefix are DAMPED,",
        EdgeTicks::above2000);
    Sentences.holds("until it is below 750.0;", EdgeTicks::below750);
    Sentences.holds("this is looked at when it grows and, at a tick, when it has become less.", EdgeTicks::lookedAt);
  }

  private static int[] timers(RouteSpeaker x) {
    int[] all = new int[8];
    for (int p = 0; p < 4; p++) {
      all[p] = x.session(p, 1);
      all[4 + p] = x.session(p, 2);
    }
    return all;
  }

  private static void falling() {
    RouteSpeaker x = new RouteSpeaker();
    Checks.row("all idle", timers(x), 0, 0, 0, 0, 0, 0, 0, 0);
    x.tick();
    Checks.row("idle ones stay", timers(x), 0, 0, 0, 0, 0, 0, 0, 0);
    x.start(0);
    Checks.agree(x, 1, 201, 7, 21);
    Checks.up(x, 2, 202, 22);
    Checks.row("SENT, AGREED, UP, IDLE", timers(x), 8, 7, 9, 0, 0, 0, 3, 0);
    Checks.same("one is up", x.tick(), 1);
    Checks.row("one less", timers(x), 7, 6, 8, 0, 0, 0, 2, 0);
    Checks.same("one is up", x.tick(), 1);
    Checks.row("and one less", timers(x), 6, 5, 7, 0, 0, 0, 1, 0);
    RouteSpeaker y = new RouteSpeaker();
    Checks.agree(y, 0, 200, 0, 20);
    Checks.agree(y, 1, 201, 0, 21);
    Checks.feed(y, 1, 2, 4);
    y.start(2);
    for (int k = 7; k >= 1; k--) {
      Checks.same("one is up", y.tick(), 1);
      Checks.row("without HOLD", timers(y), 0, 0, k, 0, 0, 0, 0, 0);
    }
    Checks.same("one is up", y.tick(), 1);
    Checks.row("AGREED and UP without HOLD, IDLE",
        Checks.ints(y.session(0, 0), y.session(1, 0), y.session(2, 0)), 2, 3, 0);
  }

  private static void holdTimerAtZero() {
    for (int hold : new int[] {3, 9}) {
      for (int state = 1; state <= 3; state++) {
        RouteSpeaker x = new RouteSpeaker();
        Checks.bring(x, 0, state, hold);
        int ticks = state == 1 ? 8 : hold;
        for (int k = 1; k < ticks; k++) {
          Checks.same("how many are up", x.tick(), state == 3 ? 1 : 0);
        }
        Checks.same("the last one", x.session(0, 1) * 10 + x.session(0, 0), 10 + state);
        Checks.sent(x, 0);
        Checks.same("none is up", x.tick(), 0);
        Checks.ended("by the hold timer in " + state, x, 0, 4, 0);
      }
    }
  }

  private static void keepTimerAtZero() {
    for (int hold = 3; hold <= 9; hold++) {
      RouteSpeaker x = new RouteSpeaker();
      Checks.agree(x, 0, 200, hold, 20);
      Checks.feed(x, 0, 2, 4);
      Checks.sent(x, 0);
      int third = hold / 3;
      for (int k = 1; k < hold; k++) {
        x.tick();
        Checks.row("HOLD " + hold + ", tick " + k, Checks.sent(x, 0), k % third == 0 ? Checks.ints(2, 4) : NONE);
        Checks.same("HOLD " + hold + ", keep timer", x.session(0, 2), third - k % third);
      }
      x.tick();
      Checks.ended("HOLD " + hold + ": the hold timer goes first", x, 0, 4, 0);
    }
    RouteSpeaker x = new RouteSpeaker();
    Checks.agree(x, 0, 200, 9, 20);
    Checks.sent(x, 0);
    for (int k = 0; k < 8; k++) {
      x.tick();
    }
    Checks.row("none in AGREED", Checks.sent(x, 0));
  }

  private static int[] route(int next) {
    return Checks.outer(0, Checks.path(200), next);
  }

  private static void multiplied() {
    RouteSpeaker x = Checks.allUp();
    Checks.announce(x, 0, route(30), 8, 9, 8, 8);
    Checks.withdraw(x, 0, 8, 9);
    Checks.announce(x, 0, route(31), 8, 8);
    Checks.announce(x, 3, Checks.plain(3), 8, 8);
    Checks.withdraw(x, 3, 8, 8);
    double[] dues = {1000.0, 500.0, 1000.0};
    for (int k = 0; k < 12; k++) {
      x.tick();
      for (int i = 0; i < 3; i++) {
        dues[i] *= 0.875;
      }
      Checks.same("withdrawn", x.penalty(0, 8, 9), dues[0]);
      Checks.same("replaced", x.penalty(0, 8, 8), dues[1]);
      Checks.same("another peer's", x.penalty(3, 8, 8), dues[2]);
      Checks.same("one that is 0", x.penalty(1, 8, 8), 0.0);
    }
    RouteSpeaker y = Checks.allUp();
    for (int k = 0; k < 8; k++) {
      y.tick();
    }
    Checks.announce(y, 0, route(30), 8, 9);
    // Peer 0 was heard of behind eight ticks, the others end by this one.
    Checks.withdraw(y, 0, 8, 9);
    Checks.same("the sessions go before", y.tick(), 1);
    Checks.same("and once a tick", y.penalty(0, 8, 9), 875.0);
  }

  private static void atFirst() {
    RouteSpeaker x = Checks.allUp();
    Checks.announce(x, 0, route(30), 8, 9);
    for (int p = 0; p < 4; p++) {
      Checks.same("of peer " + p, x.penalty(p, 8, 9), 0.0);
    }
    Checks.withdraw(x, 0, 8, 9);
    Checks.row("of that prefix and peer alone", Checks.ints((int) x.penalty(0, 8, 9), (int) x.penalty(1, 8, 9),
        (int) x.penalty(0, 8, 8), (int) x.penalty(0, 0, 0)), 1000, 0, 0, 0);
  }

  private static void withdrawn() {
    RouteSpeaker x = Checks.allUp();
    Checks.withdraw(x, 0, 8, 9);
    Checks.same("one that was never there", x.penalty(0, 8, 9), 0.0);
    Checks.announce(x, 0, route(30), 8, 9);
    Checks.withdraw(x, 1, 8, 9);
    Checks.same("one of another peer", x.penalty(1, 8, 9), 0.0);
    Checks.withdraw(x, 0, 8, 9, 8, 9);
    Checks.same("once, though it stands there twice", x.penalty(0, 8, 9), 1000.0);
    Checks.withdraw(x, 0, 8, 9);
    Checks.same("one that is no longer there", x.penalty(0, 8, 9), 1000.0);
    x.rule(0, 0, 0, 0);
    Checks.announce(x, 0, Checks.outer(0, Checks.path(200, 100), 30), 8, 8);
    Checks.withdraw(x, 0, 8, 8);
    Checks.same("one that is barred and rejected", x.penalty(0, 8, 8), 1000.0);
    Checks.feed(x, 0, Checks.update(Checks.ints(8, 7), route(30), 8, 7));
    Checks.same("withdrawn before it is announced", x.penalty(0, 8, 7), 0.0);
    Checks.feed(x, 0, Checks.update(Checks.ints(8, 7), route(30), 8, 7));
    Checks.same("withdrawn, and the same one announced", x.penalty(0, 8, 7), 1000.0);
    Checks.announce(x, 0, route(30), 8, 6);
    x.stop(0);
    Checks.same("the end of a session", x.penalty(0, 8, 6), 0.0);
    Checks.up(x, 0, 200, 20);
    Checks.announce(x, 0, route(31), 8, 6);
    Checks.same("another one in the next session", x.penalty(0, 8, 6), 0.0);
    Checks.feed(x, 0, 4, 3, 0, 0);
    Checks.same("a session that is closed", x.penalty(0, 8, 6), 0.0);
  }

  private static void replaced() {
    int[] base = Checks.inner(0, Checks.path(200, 5), 30, 60);
    int[][] changes = {Checks.inner(1, Checks.path(200, 5), 30, 60), Checks.inner(0, Checks.path(200), 30, 60),
        Checks.inner(0, Checks.path(200, 6), 30, 60), Checks.inner(0, Checks.path(200, 5), 31, 60),
        Checks.join(base, Checks.ints(4, 1, 0)), Checks.inner(0, Checks.path(200, 5), 30, 61),
        Checks.join(base, Checks.ints(9, 1, 1)), Checks.join(base, Checks.ints(10, 1, 1)),
        base, Checks.join(base, Checks.ints(255, 1, 1)), Checks.join(base, Checks.ints(10, 0))};
    for (int k = 0; k < changes.length; k++) {
      RouteSpeaker x = Checks.allUp(0, 1, 2, 0);
      for (int p = 0; p < 3; p++) {
        Checks.announce(x, p, base, 8, 9);
        Checks.announce(x, p, changes[k], 8, 9);
        Checks.same("change " + k + " of role " + p, x.penalty(p, 8, 9), k < 5 || k < 8 && p > 0 ? 500.0 : 0.0);
        Checks.announce(x, p, base, 8, 9);
        Checks.same("and back", x.penalty(p, 8, 9), k < 5 || k < 8 && p > 0 ? 1000.0 : 0.0);
      }
    }
    RouteSpeaker y = Checks.allUp(1, 0, 0, 0);
    Checks.announce(y, 0, base, 8, 9);
    Checks.announce(y, 0, Checks.inner(0, Checks.path(201, 5), 30, 60), 8, 9);
    Checks.same("another first network", y.penalty(0, 8, 9), 500.0);
    RouteSpeaker x = Checks.allUp();
    Checks.announce(x, 0, route(30), 8, 9, 8, 9, 8, 9);
    Checks.same("announced three times at once", x.penalty(0, 8, 9), 0.0);
    Checks.announce(x, 0, route(31), 8, 9, 8, 9);
    Checks.same("changed once, though it stands there twice", x.penalty(0, 8, 9), 500.0);
  }

  private static void newOneDamped() {
    RouteSpeaker x = Checks.allUp();
    for (int k = 0; k < 5; k++) {
      Checks.announce(x, 0, route(30 + k), 8, 9);
    }
    Checks.same("the best so far", x.best(8, 9, 4), 34);
    Checks.sent(x, 1);
    Checks.announce(x, 0, route(35), 8, 9);
    Checks.same("the new one", x.flaw(0, 8, 9), 2);
    Checks.refused("is not the best", Checks.NO_ELEMENT, () -> x.best(8, 9, 4));
    Checks.row("and not told", Checks.sent(x, 1), Checks.untold(8, 9));
  }

  /**
   * A run with peer 0: c another route comes in place of the one that is there (500.0), w it goes and comes again
   * (1000.0), t a tick.
   */
  private static RouteSpeaker comesAndGoes(String run) {
    RouteSpeaker x = new RouteSpeaker();
    Checks.up(x, 0, 200, 20);
    Checks.announce(x, 0, route(30), 8, 9);
    for (int k = 0; k < run.length(); k++) {
      char step = run.charAt(k);
      if (step == 't') {
        Checks.feed(x, 0, 2, 4);
        x.tick();
      } else {
        Checks.feed(x, 0, Checks.update(step == 'w' ? Checks.ints(8, 9) : NONE, route(31 + k), 8, 9));
      }
    }
    return x;
  }

  private static void leads(String run, double penalty, int flaw) {
    RouteSpeaker x = comesAndGoes(run);
    Checks.same(run + ": penalty", x.penalty(0, 8, 9), penalty);
    Checks.same(run + ": flaw", x.flaw(0, 8, 9), flaw);
  }

  private static void above2000() {
    leads("cccc", 2000.0, 0);
    leads("ww", 2000.0, 0);
    leads("cwtctttctc", 1999.9542236328125, 0);
    leads("wttttwttctc", 2000.1177787780762, 2);
    leads("ccccc", 2500.0, 2);
    RouteSpeaker x = comesAndGoes("ww");
    Checks.announce(x, 0, route(30), 8, 8);
    Checks.withdraw(x, 0, 8, 9);
    Checks.announce(x, 0, route(30), 8, 9);
    Checks.same("damped before it came", x.flaw(0, 8, 9), 2);
    Checks.same("not to another prefix", x.flaw(0, 8, 8), 0);
    Checks.up(x, 1, 201, 21);
    Checks.announce(x, 1, Checks.plain(1), 8, 9);
    Checks.same("not of another peer", x.flaw(1, 8, 9), 0);
    Checks.same("which has the best one", x.best(8, 9, 0), 1);
  }

  private static void below750() {
    leads("ccttwtttwtttttttt", 750.0401281995437, 2);
    leads("ctcctwccttttttttttt", 749.9195379123194, 0);
    leads("ctcctwcctttttttttt", 857.0509004712221, 2);
  }

  private static void lookedAt() {
    leads("cccccttc", 2414.0625, 2);
    leads("ccccctttc", 2174.8046875, 2);
    leads("ccccctttttt", 1121.988296508789, 2);
    leads("cccccttttttttttc", 500.0 + 2500.0 * Math.pow(0.875, 10), 0);
    RouteSpeaker x = comesAndGoes("cccccttttttttt");
    Checks.up(x, 1, 201, 21);
    Checks.sent(x, 1);
    Checks.feed(x, 0, 2, 4);
    Checks.same("still damped", x.flaw(0, 8, 9), 2);
    Checks.row("nothing is told", Checks.sent(x, 1));
    x.tick();
    Checks.same("no longer", x.flaw(0, 8, 9), 0);
    Checks.row("told by that tick", Checks.sent(x, 1), Checks.toldOut(Checks.ints(200), 8, 9));
    Checks.same("the last one that came", x.best(8, 9, 4), 35);
    RouteSpeaker y = comesAndGoes("ccccc");
    y.stop(0);
    Checks.up(y, 0, 200, 20);
    Checks.announce(y, 0, route(30), 8, 9);
    Checks.same("the next session changes nothing of it", y.flaw(0, 8, 9), 2);
    Checks.same("nor of the penalty", y.penalty(0, 8, 9), 2500.0);
  }
}
