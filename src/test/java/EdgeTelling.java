/** The sentences about what is told to whom, and when. */
final class EdgeTelling {
  private static final int[] NONE = Checks.NOTHING;

  private EdgeTelling() {}

  static void run() {
    Sentences.holds("To a peer whose session is UP the best route is told, as follows, if it is not a route of that "
        + "peer, not a FELLOW's for a FELLOW, and the peer is not mute for the prefix.", EdgeTelling::toWhom);
    Sentences.holds("To an external peer: ORIGIN; PATH with 100 once and as often more as the PADDING says before it "
        + "(if it has at most 8 then; otherwise it is not told); NEXT 7.", EdgeTelling::outward);
    Sentences.holds("To an internal one: ORIGIN, PATH, NEXT, METRIC, if it has one, PREFERENCE (that of the policy),",
        EdgeTelling::inward);
    Sentences.holds("and, if it is of an internal peer, SOURCE (that it has, or the ID of its peer) and CLUSTERS with "
        + "7 before them (if there are at most 6 then; otherwise it is not told).", EdgeTelling::reflected);
    Sentences.holds("Behind each message that was looked at, and at the end of each call, for each known prefix by "
        + "their order, and for each peer by its number,", EdgeTelling::when);
    Sentences.holds("what is to be told is compared with what was told last in this session:", EdgeTelling::compared);
    Sentences.holds("if it is another one (in what is told), an UPDATE announces it (alone, nothing withdrawn), with "
        + "the attributes that it has by rising names;", EdgeTelling::another);
    Sentences.holds("if nothing is to be told any more, an UPDATE withdraws it (alone, without attributes).",
        EdgeTelling::noMore);
  }

  private static int[] with(int[] attributes, int... more) {
    return Checks.join(attributes, more);
  }

  private static void toWhom() {
    int[] route = Checks.inner(0, Checks.path(200), 30, 100);
    for (int from = 0; from <= 2; from++) {
      for (int to = 0; to <= 2; to++) {
        for (int state = 0; state <= 3; state++) {
          RouteSpeaker x = Checks.allUp(from, 0, 0, 0);
          Checks.announce(x, 0, route, 8, 9);
          x.stop(1);
          Checks.sent(x, 1);
          x.peer(1, to, 201);
          if (state > 0) {
            x.start(1);
          }
          if (state > 1) {
            Checks.feed(x, 1, 6, 1, 4, to == 0 ? 201 : 100, 9, 21);
          }
          Checks.sent(x, 1);
          if (state > 2) {
            Checks.feed(x, 1, 2, 4);
          }
          Checks.same("from " + from + " to " + to + " in " + state, x.session(1, 5) > 0,
              state == 3 && !(from == 2 && to == 2));
          Checks.row("not to the peer itself", Checks.sent(x, 0));
        }
      }
    }
    RouteSpeaker x = Checks.allUp(0, 1, 2, 0);
    x.outbound(3, 0, 7, 8);
    x.originate(8, 9);
    Checks.same("the own to all", x.session(0, 5) > 0 && x.session(1, 5) > 0 && x.session(2, 5) > 0, true);
    Checks.row("but to one that is mute", Checks.sent(x, 3));
    Checks.announce(x, 1, Checks.inner(0, Checks.path(5), 30, 101), 8, 9);
    Checks.sent(x, 0);
    x.rule(1, 0, 0, 0);
    Checks.same("the next best is told again", Checks.sent(x, 0).length, 15);
    RouteSpeaker y = Checks.allUp();
    Checks.announce(y, 0, Checks.outer(0, Checks.path(200, 5), 30), 8, 9);
    Checks.announce(y, 1, Checks.plain(1), 8, 9);
    Checks.row("not another one than the best", Checks.sent(y, 1),
        Checks.join(Checks.toldOut(Checks.ints(200, 5), 8, 9), Checks.untold(8, 9)));
  }

  private static int[] path(int first, int length) {
    int[] path = new int[length];
    for (int k = 0; k < length; k++) {
      path[k] = k == 0 ? first : k;
    }
    return path;
  }

  private static void outward() {
    for (int padding = 0; padding <= 3; padding++) {
      for (int length = 0; length <= 8; length++) {
        RouteSpeaker x = Checks.allUp(1, 0, 0, 0);
        x.outbound(1, padding, -1, 0);
        int[] path = path(55, length);
        Checks.announce(x, 0, with(Checks.inner(2, Checks.path(path), 30, 250), 4, 1, 0, 9, 1, 44, 10, 1, 45), 8, 9);
        int[] before = new int[padding + 1];
        java.util.Arrays.fill(before, 100);
        Checks.row("a padding of " + padding + " and a PATH of " + length, Checks.sent(x, 1),
            padding + 1 + length > 8 ? NONE
                : Checks.told(Checks.outer(2, Checks.path(Checks.join(before, path)), 7), 8, 9));
      }
    }
    RouteSpeaker x = Checks.allUp();
    x.outbound(1, 2, -1, 0);
    Checks.announce(x, 0, Checks.outer(0, Checks.path(path(200, 5)), 30), 8, 9);
    Checks.same("8 then", Checks.sent(x, 1).length, 4 + 3 + 10 + 3 + 2);
    Checks.announce(x, 0, Checks.outer(0, Checks.path(path(200, 6)), 30), 8, 9);
    Checks.row("9 then: told no longer", Checks.sent(x, 1), Checks.untold(8, 9));
    x.outbound(1, 1, -1, 0);
    Checks.same("8 again", Checks.sent(x, 1).length, 4 + 3 + 10 + 3 + 2);
    x.originate(8, 8);
    x.outbound(1, 3, -1, 0);
    Checks.row("too long, and four times 100", Checks.sent(x, 1), Checks.join(Checks.toldOut(Checks.ints(100), 8, 8),
        Checks.untold(8, 9), Checks.toldOut(Checks.ints(100, 100, 100), 8, 8)));
  }

  private static void inward() {
    for (int to = 1; to <= 2; to++) {
      RouteSpeaker x = Checks.allUp(0, to, 0, 0);
      for (int length = 1; length <= 8; length++) {
        int[] path = path(200, length);
        Checks.announce(x, 0, Checks.outer(1, Checks.path(path), 250), 8, length);
        Checks.row("a PATH of " + length, Checks.sent(x, 1),
            Checks.told(Checks.inner(1, Checks.path(path), 250, 100), 8, length));
      }
      for (int metric : new int[] {0, 1, 255}) {
        Checks.announce(x, 0, with(Checks.plain(0), 4, 1, metric), 8, 10);
        Checks.row("METRIC " + metric, Checks.sent(x, 1),
            Checks.told(Checks.join(Checks.plain(0), Checks.ints(4, 1, metric, 5, 1, 100)), 8, 10));
      }
      for (int preference : new int[] {1, 200}) {
        x.unrule(0);
        Checks.sent(x, 1);
        x.rule(0, 8, 10, preference);
        Checks.row("preference " + preference, Checks.sent(x, 1),
            Checks.told(Checks.join(Checks.plain(0), Checks.ints(4, 1, 255, 5, 1, preference)), 8, 10));
      }
      x.outbound(1, 3, -1, 0);
      Checks.row("a padding is not for it", Checks.sent(x, 1));
      x.originate(8, 11);
      Checks.row("the own", Checks.sent(x, 1), Checks.told(Checks.inner(0, Checks.path(), 7, 100), 8, 11));
    }
  }

  private static void reflected() {
    int[][] roles = {{1, 1}, {1, 2}, {2, 1}};
    for (int[] role : roles) {
      RouteSpeaker x = Checks.allUp(role[0], role[1], 0, 0);
      for (int count = 0; count <= 6; count++) {
        int[] clusters = path(66, count);
        int[] base = Checks.inner(0, Checks.path(), 30, 0);
        Checks.announce(x, 0, with(base, Checks.attribute(10, clusters)), 8, count);
        Checks.row(count + " CLUSTERS, no SOURCE", Checks.sent(x, 1), count == 6 ? NONE : Checks.told(
            Checks.join(base, Checks.ints(9, 1, 20), Checks.attribute(10, Checks.join(Checks.ints(7), clusters))),
            8, count));
      }
      for (int source : new int[] {1, 20, 250}) {
        int[] base = Checks.inner(0, Checks.path(), 30, source);
        Checks.announce(x, 0, with(base, 9, 1, source), 8, 9);
        Checks.row("SOURCE " + source, Checks.sent(x, 1),
            Checks.told(with(base, 9, 1, source, 10, 1, 7), 8, 9));
      }
      Checks.announce(x, 0, with(Checks.inner(0, Checks.path(), 30, 9), 10, 6, 1, 2, 3, 4, 5, 6), 8, 9);
      Checks.row("7 then: told no longer", Checks.sent(x, 1), Checks.untold(8, 9));
    }
  }

  private static void when() {
    // Two messages that end in one call, and the first byte of a third.
    RouteSpeaker x = Checks.allUp();
    int[] first = Checks.update(NONE, Checks.plain(0), 8, 9);
    int[] bytes = Checks.join(first, Checks.update(Checks.ints(8, 9), NONE), Checks.ints(2));
    Checks.feed(x, 0, java.util.Arrays.copyOf(bytes, 14));
    Checks.row("not before its last byte", Checks.sent(x, 1));
    Checks.feed(x, 0, java.util.Arrays.copyOfRange(bytes, 14, bytes.length));
    Checks.row("behind each message", Checks.sent(x, 1),
        Checks.join(Checks.toldOut(Checks.ints(200), 8, 9), Checks.untold(8, 9)));
    x.feed(0, 4, 1);
    Checks.announce(x, 0, Checks.plain(0), 8, 9, 8, 7, 8, 8);
    Checks.row("by the order of the known", Checks.sent(x, 1), Checks.join(Checks.toldOut(Checks.ints(200), 8, 9),
        Checks.toldOut(Checks.ints(200), 8, 7), Checks.toldOut(Checks.ints(200), 8, 8)));
    x.rule(0, 0, 0, 0);
    Checks.row("behind rule()", Checks.sent(x, 1),
        Checks.join(Checks.untold(8, 9), Checks.untold(8, 7), Checks.untold(8, 8)));
    Checks.sent(x, 3);
    x.unrule(0);
    Checks.same("behind unrule()", Checks.sent(x, 3).length, 48);
    x.outbound(3, 0, 0, 0);
    Checks.same("behind outbound()", Checks.sent(x, 3).length, 18);
    x.outbound(3, 0, -1, 0);
    Checks.sent(x, 3);
    x.stop(0);
    Checks.same("behind stop()", Checks.sent(x, 3).length, 18);
    x.originate(8, 8);
    Checks.same("behind originate()", Checks.sent(x, 3).length, 15);
    x.retract(8, 8);
    Checks.same("behind retract()", Checks.sent(x, 3).length, 6);
    x.start(0);
    Checks.same("nothing behind start()", Checks.sent(x, 3).length, 0);
    for (int k = 0; k < 7; k++) {
      x.tick();
    }
    Checks.agree(x, 2, 202, 9, 22);
    Checks.same("nothing behind tick(), but KEEPALIVE", Checks.sent(x, 3).length, 4);
    prefixesBeforePeers();
  }

  private static void prefixesBeforePeers() {
    // Peer 1 has room for 8, 2 alone; it is closed behind peer 2 was told 8, 2 and before it is told 8, 3.
    RouteSpeaker x = new RouteSpeaker();
    EdgeSent.fill(x, 1, 168);
    for (int p = 0; p < 3; p++) {
      Checks.up(x, p, 200 + p, 20 + p);
    }
    Checks.announce(x, 1, Checks.plain(1), 8, 1);
    Checks.sent(x, 2);
    Checks.announce(x, 0, Checks.plain(0), 8, 2, 8, 3);
    Checks.same("the row of peer 1", x.session(1, 5), 168 + 8 + 16);
    Checks.idle("closed", x, 1);
    Checks.row("what peer 2 is told", Checks.sent(x, 2), Checks.join(Checks.toldOut(Checks.ints(200), 8, 2),
        Checks.untold(8, 1), Checks.toldOut(Checks.ints(200), 8, 3)));
  }

  private static void compared() {
    RouteSpeaker x = Checks.allUp(0, 0, 1, 0);
    Checks.announce(x, 0, Checks.plain(0), 8, 9);
    Checks.sent(x, 1);
    Checks.announce(x, 0, Checks.plain(0), 8, 9);
    Checks.row("the same again", Checks.sent(x, 1));
    Checks.feed(x, 0, Checks.update(Checks.ints(8, 9), Checks.plain(0), 8, 9));
    Checks.row("gone and come in one message", Checks.sent(x, 1));
    x.stop(1);
    Checks.sent(x, 1);
    x.rule(0, 0, 0, 0);
    x.unrule(0);
    Checks.up(x, 1, 201, 21);
    Checks.row("another session", Checks.sent(x, 1),
        Checks.join(Checks.ints(6, 1, 4, 100, 9, 7, 2, 4), Checks.toldOut(Checks.ints(200), 8, 9)));
    x.stop(1);
    x.rule(0, 0, 0, 0);
    Checks.sent(x, 1);
    Checks.up(x, 1, 201, 21);
    Checks.row("nothing is withdrawn in another session", Checks.sent(x, 1), 6, 1, 4, 100, 9, 7, 2, 4);
  }

  private static void another() {
    int[] base = Checks.inner(0, Checks.path(5), 30, 100);
    int[][] changes = {Checks.inner(1, Checks.path(5), 30, 100), Checks.inner(0, Checks.path(6), 30, 100),
        Checks.inner(0, Checks.path(5, 6), 30, 100), Checks.inner(0, Checks.path(), 30, 100),
        Checks.inner(0, Checks.path(5), 31, 100), with(base, 4, 1, 0), Checks.inner(0, Checks.path(5), 30, 101),
        with(base, 9, 1, 21), with(base, 10, 1, 1), with(base, 9, 1, 20), with(base, 10, 0), with(base, 128, 1, 5)};
    for (int k = 0; k < changes.length; k++) {
      RouteSpeaker x = Checks.allUp(1, 0, 1, 0);
      Checks.announce(x, 0, base, 8, 9);
      Checks.sent(x, 1);
      Checks.sent(x, 2);
      Checks.announce(x, 0, changes[k], 8, 9);
      Checks.same("change " + k + " for an external one", x.session(1, 5) > 0, k < 4);
      Checks.same("change " + k + " for an internal one", x.session(2, 5) > 0, k < 9);
    }
    RouteSpeaker y = Checks.allUp(1, 0, 1, 0);
    Checks.announce(y, 0, Checks.join(Checks.ints(10, 1, 3, 9, 1, 2, 5, 1, 4, 4, 1, 6, 3, 1, 8), Checks.path(9),
        Checks.ints(1, 1, 2, 222, 1, 1)), 8, 9);
    Checks.row("by rising names", Checks.sent(y, 2),
        28, 2, 0, 22, 1, 1, 2, 2, 1, 9, 3, 1, 8, 4, 1, 6, 5, 1, 4, 9, 1, 2, 10, 2, 7, 3, 8, 9);
    Checks.announce(y, 3, Checks.outer(0, Checks.path(203), 30), 8, 8);
    Checks.withdraw(y, 3, 8, 8);
    Checks.sent(y, 2);
    Checks.feed(y, 3, Checks.update(Checks.ints(8, 9, 8, 8), Checks.outer(0, Checks.path(203), 31), 8, 8, 8, 7));
    Checks.row("each alone", Checks.sent(y, 2), Checks.join(
        Checks.told(Checks.inner(0, Checks.path(203), 31, 100), 8, 8),
        Checks.told(Checks.inner(0, Checks.path(203), 31, 100), 8, 7)));
  }

  private static void noMore() {
    RouteSpeaker x = Checks.allUp();
    Checks.announce(x, 0, Checks.plain(0), 0, 0, 8, 255);
    Checks.sent(x, 1);
    Checks.withdraw(x, 0, 8, 255, 0, 0);
    Checks.row("withdrawn, each alone", Checks.sent(x, 1), 6, 2, 1, 0, 0, 0, 6, 2, 1, 8, 255, 0);
    Checks.withdraw(x, 0, 8, 255, 0, 0);
    Checks.row("once", Checks.sent(x, 1));
    x.outbound(1, 0, 0, 0);
    Checks.announce(x, 0, Checks.plain(0), 8, 1);
    Checks.withdraw(x, 0, 8, 1);
    Checks.row("not what was never told", Checks.sent(x, 1));
    Checks.row("but to another", java.util.Arrays.copyOfRange(Checks.sent(x, 2), 44, 66), Checks.join(
        Checks.toldOut(Checks.ints(200), 8, 1), Checks.untold(8, 1)));
  }
}
