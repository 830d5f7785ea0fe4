import java.util.Arrays;

/** What is told to whom, in what form, when, and what happens when too much is sent. */
final class TellingTest {
  private static final int[] NONE = Checks.NOTHING;

  public static void main(String[] args) {
    toWhom();
    outward();
    outwardTooLong();
    inwardFromOutside();
    inwardReflected();
    inwardTooManyClusters();
    preferenceOfThePolicy();
    anotherOne();
    notItsOwn();
    whenUp();
    behindEachMessage();
    onceForAMessage();
    orderOfPeers();
    exactly200();
    overflowOfAnUpdate();
    overflowOfAWithdrawal();
    overflowOfStart();
    overflowOfEnd();
    overflowOfAgreement();
    overflowOfKeepalive();
    overflowGoesOverAllAgain();
    overflowEndsFeeding();
    Checks.finish();
  }

  private static int[] with(int[] attributes, int... more) {
    return Checks.join(attributes, more);
  }

  private static void toWhom() {
    // told[from][to] by the roles of both
    boolean[][] due = {{true, true, true}, {true, true, true}, {true, true, false}};
    for (int from = 0; from < 3; from++) {
      for (int to = 0; to < 3; to++) {
        RouteSpeaker x = Checks.allUp(from, to, to, 0);
        int[] path = Checks.path(200);
        Checks.announce(x, 0, Checks.inner(0, path, 30, 100), 8, 9);
        Checks.same(from + " to " + to, x.session(1, 5) > 0, due[from][to]);
        Checks.same(from + " to another " + to, x.session(2, 5) > 0, due[from][to]);
        Checks.same("not back", x.session(0, 5), 0);
      }
    }
  }

  private static void outward() {
    RouteSpeaker x = Checks.allUp(1, 0, 0, 0);
    x.outbound(1, 2, -1, 0);
    int[] all = with(Checks.inner(2, Checks.path(5, 201), 30, 250), 4, 1, 9, 9, 1, 44, 10, 1, 45, 200, 1, 0);
    Checks.announce(x, 0, all, 8, 9);
    Checks.row("ORIGIN, PATH and NEXT alone", Checks.sent(x, 1),
        Checks.told(Checks.outer(2, Checks.path(100, 100, 100, 5, 201), 7), 8, 9));
    Checks.row("without a padding", Checks.sent(x, 2),
        Checks.told(Checks.outer(2, Checks.path(100, 5, 201), 7), 8, 9));
  }

  private static void outwardTooLong() {
    RouteSpeaker x = Checks.allUp();
    for (int p = 1; p < 4; p++) {
      x.outbound(p, p, -1, 0);
    }
    Checks.announce(x, 0, Checks.outer(0, Checks.path(200, 2, 3, 4, 5, 6), 30), 8, 9);
    Checks.row("8 in all", Checks.sent(x, 1),
        Checks.told(Checks.outer(0, Checks.path(100, 100, 200, 2, 3, 4, 5, 6), 7), 8, 9));
    Checks.row("9 in all", Checks.sent(x, 2));
    x.outbound(1, 2, -1, 0);
    Checks.row("withdrawn when it gets too long", Checks.sent(x, 1), 6, 2, 1, 8, 9, 0);
    x.outbound(1, 0, -1, 0);
    Checks.row("told again", Checks.sent(x, 1),
        Checks.told(Checks.outer(0, Checks.path(100, 200, 2, 3, 4, 5, 6), 7), 8, 9));
    Checks.announce(x, 0, Checks.outer(0, Checks.path(200, 2, 3, 4, 5, 6, 7, 8), 30), 8, 9);
    Checks.row("8 are too many without a padding", Checks.sent(x, 1), 6, 2, 1, 8, 9, 0);
  }

  private static void inwardFromOutside() {
    RouteSpeaker x = Checks.allUp(0, 1, 2, 0);
    int[] all = with(Checks.outer(1, Checks.path(200, 2, 3, 4, 5, 6, 7, 8), 30), 4, 1, 0, 5, 1, 9, 9, 1, 44, 10, 1, 45);
    Checks.announce(x, 0, all, 8, 9);
    int[] due = {1, 1, 1, 2, 8, 200, 2, 3, 4, 5, 6, 7, 8, 3, 1, 30, 4, 1, 0, 5, 1, 100};
    Checks.row("to a client, METRIC 0 too", Checks.sent(x, 1), Checks.told(due, 8, 9));
    Checks.row("to a fellow", Checks.sent(x, 2), Checks.told(due, 8, 9));
    Checks.announce(x, 0, Checks.outer(1, Checks.path(200), 30), 8, 9);
    Checks.row("without a METRIC", Checks.sent(x, 1), Checks.told(Checks.inner(1, Checks.path(200), 30, 100), 8, 9));
  }

  private static void inwardReflected() {
    RouteSpeaker x = Checks.allUp(1, 1, 2, 2);
    Checks.announce(x, 0, Checks.inner(0, Checks.path(), 30, 55), 8, 9);
    int[] due = with(Checks.inner(0, Checks.path(), 30, 55), 9, 1, 20, 10, 1, 7);
    Checks.row("a client's to a client", Checks.sent(x, 1), Checks.told(due, 8, 9));
    Checks.row("a client's to a fellow", Checks.sent(x, 2), Checks.told(due, 8, 9));
    int[] all = with(Checks.inner(2, Checks.path(1, 2, 3, 4, 5, 6, 7, 8), 30, 255), 4, 1, 5, 9, 1, 44, 10, 5, 1, 2, 3, 4, 5);
    Checks.announce(x, 3, all, 8, 9);
    int[] longest = {2, 8, 1, 2, 3, 4, 5, 6, 7, 8};
    Checks.row("a fellow's to a client", Checks.sent(x, 1), Checks.told(with(Checks.outer(2, longest, 30),
        4, 1, 5, 5, 1, 255, 9, 1, 44, 10, 6, 7, 1, 2, 3, 4, 5), 8, 9));
    Checks.row("not to a fellow any more", Checks.sent(x, 2), 6, 2, 1, 8, 9, 0);
  }

  private static void inwardTooManyClusters() {
    RouteSpeaker x = Checks.allUp(1, 1, 0, 0);
    int[] base = Checks.inner(0, Checks.path(), 30, 55);
    Checks.announce(x, 0, with(base, 10, 6, 1, 2, 3, 4, 5, 6), 8, 9);
    Checks.row("7 in all", Checks.sent(x, 1));
    Checks.same("told to an external one", x.session(2, 5), 15);
    Checks.announce(x, 0, with(base, 10, 5, 1, 2, 3, 4, 5), 8, 9);
    Checks.same("6 in all", x.session(1, 5), 4 + 11 + 3 + 8 + 2);
    Checks.sent(x, 1);
    Checks.announce(x, 0, with(base, 10, 6, 1, 2, 3, 4, 5, 6), 8, 9);
    Checks.row("withdrawn when they get too many", Checks.sent(x, 1), 6, 2, 1, 8, 9, 0);
  }

  private static void preferenceOfThePolicy() {
    RouteSpeaker x = Checks.allUp(0, 1, 0, 0);
    x.rule(0, 0, 0, 200);
    Checks.announce(x, 0, Checks.plain(0), 8, 9);
    Checks.row("the preference of the policy", Checks.sent(x, 1),
        Checks.told(Checks.inner(0, Checks.path(200), 30, 200), 8, 9));
    Checks.sent(x, 2);
    x.unrule(0);
    Checks.row("another one is told", Checks.sent(x, 1), Checks.told(Checks.inner(0, Checks.path(200), 30, 100), 8, 9));
    Checks.row("not to an external one, to whom it is the same", Checks.sent(x, 2));
  }

  private static void anotherOne() {
    RouteSpeaker x = Checks.allUp(0, 0, 0, 1);
    Checks.announce(x, 0, Checks.plain(0), 8, 9);
    Checks.sent(x, 1);
    Checks.sent(x, 3);
    Checks.announce(x, 0, Checks.outer(0, Checks.path(200), 44), 8, 9);
    Checks.row("the same for an external one", Checks.sent(x, 1));
    Checks.row("another NEXT for an internal one", Checks.sent(x, 3),
        Checks.told(Checks.inner(0, Checks.path(200), 44, 100), 8, 9));
    Checks.announce(x, 0, Checks.outer(1, Checks.path(200), 44), 8, 9);
    Checks.row("another ORIGIN", Checks.sent(x, 1), Checks.told(Checks.outer(1, Checks.path(100, 200), 7), 8, 9));
    Checks.announce(x, 0, Checks.outer(1, Checks.path(200, 9), 44), 8, 9);
    Checks.row("a longer PATH", Checks.sent(x, 1), Checks.told(Checks.outer(1, Checks.path(100, 200, 9), 7), 8, 9));
    Checks.withdraw(x, 0, 8, 9);
    Checks.row("withdrawn", Checks.sent(x, 1), 6, 2, 1, 8, 9, 0);
    Checks.withdraw(x, 0, 8, 9);
    Checks.row("withdrawn once", Checks.sent(x, 1));
    RouteSpeaker y = Checks.allUp();
    Checks.announce(y, 0, Checks.plain(0), 8, 9);
    Checks.withdraw(y, 0, 8, 9);
    Checks.sent(y, 1);
    Checks.announce(y, 0, Checks.plain(0), 8, 9);
    Checks.same("told again", Checks.sent(y, 1).length, 16);
  }

  private static void notItsOwn() {
    RouteSpeaker x = Checks.allUp();
    Checks.announce(x, 1, Checks.plain(1), 8, 9);
    Checks.row("told to 0", Checks.sent(x, 0), Checks.told(Checks.outer(0, Checks.path(100, 201), 7), 8, 9));
    Checks.announce(x, 0, Checks.plain(0), 8, 9);
    Checks.row("withdrawn from 0, whose route is the best now", Checks.sent(x, 0), 6, 2, 1, 8, 9, 0);
    Checks.row("told to 1", Checks.sent(x, 1), Checks.told(Checks.outer(0, Checks.path(100, 200), 7), 8, 9));
  }

  private static void whenUp() {
    RouteSpeaker x = new RouteSpeaker();
    x.originate(8, 9);
    x.start(0);
    Checks.row("not when SENT", Checks.sent(x, 0), 6, 1, 4, 100, 9, 7);
    Checks.feed(x, 0, 6, 1, 4, 200, 9, 20);
    x.originate(8, 10);
    Checks.row("not when AGREED", Checks.sent(x, 0), 2, 4);
    x.retract(8, 10);
    Checks.feed(x, 0, 2, 4);
    int[] due = Checks.told(Checks.outer(0, Checks.path(100), 7), 8, 9);
    Checks.row("when UP", Checks.sent(x, 0), due);
    x.stop(0);
    Checks.sent(x, 0);
    x.retract(8, 9);
    Checks.row("nothing when IDLE", Checks.sent(x, 0));
    x.originate(8, 9);
    Checks.up(x, 0, 200, 20);
    Checks.row("all again in a new session", Checks.sent(x, 0),
        Checks.join(Checks.ints(6, 1, 4, 100, 9, 7, 2, 4), due));
    x.stop(0);
    x.retract(8, 9);
    Checks.sent(x, 0);
    Checks.up(x, 0, 200, 20);
    Checks.row("no withdrawal of what an earlier session was told", Checks.sent(x, 0), 6, 1, 4, 100, 9, 7, 2, 4);
  }

  private static void behindEachMessage() {
    RouteSpeaker x = Checks.allUp();
    Checks.announce(x, 0, Checks.plain(0), 8, 9);
    Checks.sent(x, 1);
    // the end of an UPDATE that changes the route and the whole of another that withdraws it
    int[] first = Checks.update(NONE, Checks.outer(1, Checks.path(200), 30), 8, 9);
    int[] both = Checks.join(first, Checks.update(Checks.ints(8, 9), NONE));
    Checks.feed(x, 0, Arrays.copyOf(both, 13));
    Checks.feed(x, 0, Arrays.copyOfRange(both, 13, both.length));
    Checks.row("told behind the first, withdrawn behind the second", Checks.sent(x, 1),
        Checks.join(Checks.told(Checks.outer(1, Checks.path(100, 200), 7), 8, 9), Checks.ints(6, 2, 1, 8, 9, 0)));
  }

  private static void onceForAMessage() {
    RouteSpeaker x = Checks.allUp();
    Checks.announce(x, 0, Checks.plain(0), 8, 9);
    Checks.sent(x, 1);
    Checks.feed(x, 0, Checks.update(Checks.ints(8, 9), Checks.plain(0), 8, 9));
    Checks.row("gone and come in one message", Checks.sent(x, 1));
    Checks.feed(x, 0, Checks.update(Checks.ints(8, 9), Checks.plain(0), 8, 8, 8, 7));
    Checks.row("by the order of the known", Checks.sent(x, 1), Checks.join(Checks.ints(6, 2, 1, 8, 9, 0),
        Checks.told(Checks.outer(0, Checks.path(100, 200), 7), 8, 8), Checks.told(Checks.outer(0, Checks.path(100, 200), 7), 8, 7)));
  }

  private static void orderOfPeers() {
    // What the end of one session brings is told to the others at the end of the tick.
    RouteSpeaker x = Checks.allUp(0, 0, 0, 0);
    Checks.announce(x, 0, Checks.plain(0), 8, 9);
    for (int k = 0; k < 8; k++) {
      x.tick();
      Checks.feed(x, 1, 2, 4);
    }
    Checks.sent(x, 1);
    Checks.same("one is left", x.tick(), 1);
    Checks.row("KEEPALIVE, then the withdrawal", Checks.sent(x, 1), 2, 4, 6, 2, 1, 8, 9, 0);
    Checks.row("END 4, 0 alone", Arrays.copyOfRange(Checks.sent(x, 3), 19 - 3, 24), 2, 4, 2, 4, 4, 3, 4, 0);
  }

  /** Peer 0 idle with so many bytes that are not taken (a multiple of 10, or 6 more than that). */
  private static void fill(RouteSpeaker x, int bytes) {
    for (int k = 0; k < bytes / 10; k++) {
      x.start(0);
      x.stop(0);
    }
    if (bytes % 10 == 6) {
      x.start(0);
      Checks.feed(x, 0, 4, 3, 0, 0);
    }
    Checks.same("filled", x.session(0, 5), bytes);
  }

  private static void exactly200() {
    RouteSpeaker x = new RouteSpeaker();
    fill(x, 190);
    x.start(0);
    x.stop(0);
    Checks.same("200 bytes", x.session(0, 5), 200);
    int[] all = Checks.sent(x, 0);
    Checks.row("the last ones", Arrays.copyOfRange(all, 190, 200), 6, 1, 4, 100, 9, 7, 4, 3, 6, 2);
    x.start(0);
    Checks.row("there is room again", Checks.sent(x, 0), 6, 1, 4, 100, 9, 7);
  }

  private static void overflowOfAnUpdate() {
    RouteSpeaker x = new RouteSpeaker();
    x.originate(8, 1);
    x.originate(8, 2);
    fill(x, 160);
    Checks.up(x, 0, 200, 20);
    Checks.same("168 and 30 bytes", x.session(0, 5), 198);
    Checks.same("UP", x.session(0, 0), 3);
    Checks.same("originate", x.originate(8, 3), true);
    Checks.same("no room for it", x.session(0, 5), 198);
    for (int what = 0; what <= 4; what++) {
      Checks.same("closed session(0, " + what + ")", x.session(0, what), 0);
    }
    RouteSpeaker y = new RouteSpeaker();
    y.originate(8, 1);
    y.originate(8, 2);
    fill(y, 166);
    Checks.up(y, 0, 200, 20);
    Checks.same("174 and one of two", y.session(0, 5), 189);
    Checks.same("closed as soon as it is up", y.session(0, 0), 0);
  }

  private static void overflowOfAWithdrawal() {
    RouteSpeaker x = new RouteSpeaker();
    x.originate(8, 1);
    fill(x, 176);
    Checks.up(x, 0, 200, 20);
    Checks.same("184 and 15 bytes", x.session(0, 5), 199);
    Checks.same("UP", x.session(0, 0), 3);
    x.retract(8, 1);
    Checks.same("closed by a withdrawal", x.session(0, 0), 0);
    Checks.same("nothing more sent", x.session(0, 5), 199);
    RouteSpeaker y = new RouteSpeaker();
    y.originate(8, 1);
    fill(y, 176);
    Checks.up(y, 0, 200, 20);
    y.tick();
    y.tick();
    Checks.same("199", y.session(0, 5), 199);
    Checks.same("201 are too many", y.tick(), 0);
  }

  private static void overflowOfStart() {
    RouteSpeaker x = new RouteSpeaker();
    fill(x, 196);
    Checks.same("start", x.start(0), true);
    Checks.same("closed", x.session(0, 0), 0);
    Checks.same("no hold timer", x.session(0, 1), 0);
    Checks.same("nothing sent", x.session(0, 5), 196);
    x.take(0);
    x.take(0);
    Checks.same("start", x.start(0), true);
    Checks.same("room for six", x.session(0, 0), 1);
    Checks.same("200", x.session(0, 5), 200);
  }

  private static void overflowOfEnd() {
    RouteSpeaker x = new RouteSpeaker();
    fill(x, 190);
    x.start(0);
    Checks.feed(x, 0, 6, 1, 4, 200, 9, 20);
    Checks.same("198", x.session(0, 5), 198);
    Checks.same("stop", x.stop(0), true);
    Checks.same("idle", x.session(0, 0), 0);
    Checks.same("no NOTIFICATION", x.session(0, 5), 198);
    RouteSpeaker y = new RouteSpeaker();
    fill(y, 186);
    Checks.agree(y, 0, 200, 9, 20);
    y.feed(0, 1, 1);
    Checks.same("194 and 4", y.session(0, 5), 198);
  }

  private static void overflowOfAgreement() {
    RouteSpeaker x = new RouteSpeaker();
    fill(x, 190);
    x.originate(0, 0);
    x.start(0);
    x.stop(0);
    x.take(0);
    x.take(0);
    x.take(0);
    x.take(0);
    x.take(0);
    x.take(0);
    Checks.agree(x, 0, 200, 9, 20);
    Checks.same("200, no room for KEEPALIVE", x.session(0, 5), 200);
    for (int what = 0; what <= 4; what++) {
      Checks.same("closed session(0, " + what + ")", x.session(0, what), 0);
    }
  }

  private static void overflowOfKeepalive() {
    RouteSpeaker x = new RouteSpeaker();
    fill(x, 190);
    Checks.agree(x, 0, 200, 3, 20);
    Checks.feed(x, 0, 2, 4);
    Checks.announce(x, 0, Checks.plain(0), 8, 9);
    Checks.same("one more KEEPALIVE", x.tick(), 1);
    Checks.same("200", x.session(0, 5), 200);
    Checks.same("the next one closes the session", x.tick(), 0);
    Checks.same("idle", x.session(0, 0), 0);
    Checks.same("no keep timer", x.session(0, 2), 0);
    Checks.fails("the routes are gone", Checks.NO_ELEMENT, () -> x.best(8, 9, 0));
  }

  private static void overflowGoesOverAllAgain() {
    // Peer 0 has the best routes to 8, 1 and 8, 2; by telling it 8, 3 its session is closed.
    RouteSpeaker x = new RouteSpeaker();
    fill(x, 186);
    Checks.up(x, 0, 200, 20);
    Checks.up(x, 1, 201, 21);
    Checks.sent(x, 1);
    Checks.announce(x, 0, Checks.plain(0), 8, 1, 8, 2);
    Checks.sent(x, 1);
    x.originate(8, 3);
    Checks.same("closed", x.session(0, 0), 0);
    Checks.row("from the beginning, before 8, 3 is told", Checks.sent(x, 1), Checks.join(
        Checks.ints(6, 2, 1, 8, 1, 0, 6, 2, 1, 8, 2, 0), Checks.told(Checks.outer(0, Checks.path(100), 7), 8, 3)));
  }

  private static void overflowEndsFeeding() {
    // Its own UPDATE brings a change that peer 0 is told, and for which there is no room.
    RouteSpeaker x = new RouteSpeaker();
    fill(x, 170);
    x.originate(8, 9);
    Checks.up(x, 0, 200, 20);
    Checks.same("178 and 15", x.session(0, 5), 193);
    x.outbound(0, 0, 0, 0);
    Checks.same("199", x.session(0, 5), 199);
    x.outbound(0, 0, -1, 0);
    Checks.same("closed", x.session(0, 0), 0);
    Checks.same("tick", x.tick(), 0);
    Checks.same("199 still", x.session(0, 5), 199);
  }
}
