/** The sentences of the promises, as far as the terms have not said them. */
final class EdgePromises {
  private static final int[] NONE = Checks.NOTHING;
  private static final int[][] NO_PREFIXES = {{-1, 0}, {9, 0}, {0, 1}, {0, 128}, {1, 64}, {4, 8}, {7, 1}, {8, 256},
      {8, -1}, {Integer.MIN_VALUE, 0}, {Integer.MAX_VALUE, 0}, {8, Integer.MIN_VALUE}, {8, Integer.MAX_VALUE}};

  private EdgePromises() {}

  static void run() {
    Sentences.holds("All sessions idle, no rules, nothing originated.", EdgePromises::newObject);
    Sentences.holds("Peer p gets a role, and the network if it is external (else that is not looked at); "
        + "all else of it stays.", EdgePromises::peer);
    Sentences.holds("IllegalArgumentException when there is no such peer or role, or the network of an external one "
        + "is not 1 .. 250 or is 100; else IllegalStateException when its session is not idle.",
        EdgePromises::peerRefused);
    Sentences.holds("Peer p gets one more rule. IllegalArgumentException when there is no such peer, it is no prefix, "
        + "or the action is not 0 .. 200; else IllegalStateException when it has 3.", EdgePromises::rule);
    Sentences.holds("Peer p has no rules any more. IllegalArgumentException when there is no such peer.",
        EdgePromises::unrule);
    Sentences.holds("Peer p gets a padding, and is mute for a prefix and all within it, or, for a length of -1, "
        + "for nothing.", EdgePromises::outbound);
    Sentences.holds("IllegalArgumentException when there is no such peer, the padding is not 0 .. 3, "
        + "or it is no prefix.", EdgePromises::outboundRefused);
    Sentences.holds("The speaker originates a prefix: true, or false when it does already. IllegalArgumentException "
        + "when it is none; else IllegalStateException when it is not known and 12 are.", EdgePromises::originate);
    Sentences.holds("The speaker originates a prefix no longer: true, or false when it doesn't. "
        + "IllegalArgumentException when it is none.", EdgePromises::retract);
    Sentences.holds("The session with peer p is started: true; false when it is not idle.", EdgePromises::start);
    Sentences.holds("The session with peer p is ended, 6, 2: true; false when it is idle.", EdgePromises::stop);
    Sentences.holds("n bytes come in from peer p: the lowest n of bytes, the highest of these first;",
        EdgePromises::lowestBytes);
    Sentences.holds("what comes when the session is idle is lost: true; false when it is idle before.",
        EdgePromises::fedWhenIdle);
    Sentences.holds("IllegalArgumentException when there is no such peer or n is not 1 .. 8.",
        EdgePromises::feedRefused);
    Sentences.holds("The first byte (0 .. 255) that was sent to peer p, which is taken. IllegalArgumentException when "
        + "there is no such peer; else NoSuchElementException when there is none.", EdgePromises::take);
    Sentences.holds("A tick: how many sessions are up then.", EdgePromises::tick);
    Sentences.holds("what = 0 what it is, 1 the hold timer (0 when idle, or agreed or up without HOLD), 2 the keep "
        + "timer (0 when not up or without HOLD), 3 HOLD, 4 the ID of the peer (3 and 4: 0 when not agreed or up), "
        + "5 how many bytes sent are not taken, 6 how many of a message have come.", EdgePromises::session);
    Sentences.holds("NONE when there is no such peer or what is none of these.", EdgePromises::sessionOfNone);
    Sentences.holds("what = 0 its peer, or 4 for the own; 1 the preference (of the policy), 2 ORIGIN, 3 how long its "
        + "PATH is, 4 NEXT, 5 METRIC (NONE without one), 6 SOURCE (0 without one), 7 how many CLUSTERS; 8 .. 15 its "
        + "PATH, 16 .. 21 its CLUSTERS (0 behind the last).", EdgePromises::best);
    Sentences.holds("IllegalArgumentException when it is no prefix or what is none of these; else "
        + "NoSuchElementException when there is no route.", EdgePromises::bestRefused);
    Sentences.holds("What stands against the route of peer p to a prefix: 1 barred, + 2 damped, + 4 rejected; "
        + "0 nothing.", EdgePromises::flaw);
    Sentences.holds("IllegalArgumentException when there is no such peer or it is no prefix; else "
        + "NoSuchElementException when there is no route.", EdgePromises::flawRefused);
    Sentences.holds("The penalty of peer p for a prefix (0.0 when it is not known, or nothing was counted). "
        + "IllegalArgumentException when there is no such peer or it is no prefix.", EdgePromises::penalty);
    Sentences.holds("The peer (or 4) of the best route to the longest prefix that has a best route and within which "
        + "the byte address is, that is, the prefix of length 8 and this address.", EdgePromises::forward);
    Sentences.holds("IllegalArgumentException when address is not 0 .. 255; else NoSuchElementException when there is "
        + "none.", EdgePromises::forwardRefused);
    Sentences.holds("How many prefixes are known.", EdgePromises::known);
  }

  private static void newObject() {
    RouteSpeaker x = new RouteSpeaker();
    Checks.same("no prefix is known", x.known(), 0);
    for (int p = 0; p < 4; p++) {
      int peer = p;
      Checks.idle("new", x, p);
      Checks.same("nothing was sent", x.session(p, 5), 0);
      Checks.same("stop", x.stop(p), false);
      Checks.same("feed", x.feed(p, 0, 1), false);
      for (int k = 0; k < 3; k++) {
        x.rule(p, 0, 0, 0);
      }
      Checks.refused("there was room for three rules", Checks.ILLEGAL_STATE, () -> x.rule(peer, 0, 0, 0));
    }
    for (int length = 0; length <= 8; length++) {
      Checks.same("nothing is originated", x.retract(length, 0), false);
    }
    RouteSpeaker y = Checks.allUp();
    Checks.announce(y, 2, Checks.plain(2), 8, 9);
    Checks.same("no rules", y.best(8, 9, 1), 100);
    Checks.row("no padding, mute for nothing", Checks.sent(y, 0), Checks.toldOut(Checks.ints(202), 8, 9));
    x.originate(0, 0);
    Checks.refused("another object", Checks.NO_ELEMENT, () -> y.best(0, 0, 0));
  }

  private static void peer() {
    for (int network : new int[] {-1, 0, 100, 251, Integer.MIN_VALUE, Integer.MAX_VALUE}) {
      for (int role = 1; role <= 2; role++) {
        RouteSpeaker x = new RouteSpeaker();
        x.peer(0, role, network);
        Checks.agree(x, 0, 100, 9, 20);
        Checks.same("role " + role + ", network " + network, x.session(0, 0), 2);
      }
    }
    RouteSpeaker x = Checks.allUp();
    x.outbound(0, 1, 8, 1);
    x.rule(0, 0, 0, 50);
    x.rule(0, 0, 0, 51);
    Checks.announce(x, 0, Checks.plain(0), 8, 9);
    Checks.withdraw(x, 0, 8, 9);
    x.stop(0);
    x.take(0);
    x.peer(0, 1, 0);
    x.peer(0, 0, 1);
    Checks.row("what was sent stays", Checks.sent(x, 0), 3, 6, 2);
    Checks.same("the penalty stays", x.penalty(0, 8, 9), 1000.0);
    x.rule(0, 0, 0, 52);
    Checks.refused("the rules stay", Checks.ILLEGAL_STATE, () -> x.rule(0, 0, 0, 53));
    x.originate(8, 1);
    x.originate(8, 2);
    Checks.up(x, 0, 1, 20);
    Checks.row("the padding, and for what it is mute, stay", Checks.sent(x, 0), Checks.join(
        Checks.ints(6, 1, 4, 100, 9, 7, 2, 4), Checks.toldOut(Checks.ints(100), 8, 2)));
    x.retract(8, 2);
    Checks.announce(x, 0, Checks.outer(0, Checks.path(1), 30), 8, 2);
    Checks.same("the first rule counts", x.best(8, 2, 1), 50);
    for (int p = 1; p < 4; p++) {
      Checks.same("another peer", x.session(p, 0), 3);
    }
  }

  private static void peerRefused() {
    RouteSpeaker x = new RouteSpeaker();
    for (int network : new int[] {-1, 0, 100, 251, 456, Integer.MIN_VALUE, Integer.MAX_VALUE}) {
      Checks.refused("network " + network, Checks.ILLEGAL_ARGUMENT, () -> x.peer(0, 0, network));
    }
    for (int role : new int[] {-1, 3, Integer.MIN_VALUE, Integer.MAX_VALUE}) {
      Checks.refused("role " + role, Checks.ILLEGAL_ARGUMENT, () -> x.peer(0, role, 1));
    }
    for (int network : new int[] {1, 99, 101, 250}) {
      x.peer(0, 0, network);
      Checks.agree(x, 0, network, 9, 20);
      Checks.same("network " + network, x.session(0, 0), 2);
      x.stop(0);
    }
    for (int state = 1; state <= 3; state++) {
      RouteSpeaker y = new RouteSpeaker();
      Checks.bring(y, 1, state, 9);
      for (int role = 0; role <= 2; role++) {
        int r = role;
        Checks.refused("in state " + state, Checks.ILLEGAL_STATE, () -> y.peer(1, r, 201));
      }
      Checks.refused("a wrong role", Checks.ILLEGAL_ARGUMENT, () -> y.peer(1, 3, 201));
      Checks.refused("a wrong network", Checks.ILLEGAL_ARGUMENT, () -> y.peer(1, 0, 100));
      Checks.refused("an internal one's network", Checks.ILLEGAL_STATE, () -> y.peer(1, 1, 0));
      Checks.same("the state", y.session(1, 0), state);
      y.peer(0, 1, 0);
    }
  }

  private static void rule() {
    RouteSpeaker x = new RouteSpeaker();
    for (int full = 0; full <= 1; full++) {
      for (int[] no : NO_PREFIXES) {
        Checks.refused("no prefix " + no[0] + ", " + no[1], Checks.ILLEGAL_ARGUMENT, () -> x.rule(3, no[0], no[1], 1));
      }
      for (int action : new int[] {-1, 201}) {
        Checks.refused("action " + action, Checks.ILLEGAL_ARGUMENT, () -> x.rule(3, 0, 0, action));
      }
      Checks.refused("no peer", Checks.ILLEGAL_ARGUMENT, () -> x.rule(4, 0, 0, 1));
      for (int k = 0; k < 3 && full == 0; k++) {
        x.rule(3, 8, 255, 100 * k);
      }
      Checks.refused("one more than three", Checks.ILLEGAL_STATE, () -> x.rule(3, 0, 0, 200));
    }
    x.unrule(3);
    x.rule(3, 0, 0, 0);
    x.rule(2, 0, 0, 0);
    Checks.same("not what it tells", x.originate(0, 0), true);
  }

  private static void unrule() {
    RouteSpeaker x = Checks.allUp();
    x.unrule(0);
    for (int count = 0; count <= 3; count++) {
      for (int k = 0; k < count; k++) {
        x.rule(0, 0, 0, 0);
        x.rule(1, 0, 0, 1 + k);
      }
      x.unrule(0);
      Checks.announce(x, 0, Checks.plain(0), 8, 9);
      Checks.same("none of " + count + " counts any more", x.best(8, 9, 1), 100);
      x.unrule(1);
    }
    x.rule(1, 0, 0, 7);
    x.unrule(0);
    Checks.announce(x, 1, Checks.plain(1), 8, 8);
    Checks.same("another peer's stay", x.best(8, 8, 1), 7);
    Checks.refused("no peer", Checks.ILLEGAL_ARGUMENT, () -> x.unrule(-1));
    Checks.refused("no peer 4", Checks.ILLEGAL_ARGUMENT, () -> x.unrule(4));
    x.unrule(3);
  }

  private static void outbound() {
    RouteSpeaker x = Checks.allUp();
    for (int k = 0; k < 3; k++) {
      x.originate(8, 8 + k);
    }
    Checks.sent(x, 3);
    x.outbound(3, 0, 8, 8);
    Checks.row("mute for one", Checks.sent(x, 3), Checks.untold(8, 8));
    x.outbound(3, 0, 8, 10);
    Checks.row("for another one instead", Checks.sent(x, 3),
        Checks.join(Checks.toldOut(NONE, 8, 8), Checks.untold(8, 10)));
    x.outbound(3, 0, 7, 8);
    Checks.row("for two", Checks.sent(x, 3), Checks.join(Checks.untold(8, 8), Checks.untold(8, 9),
        Checks.toldOut(NONE, 8, 10)));
    for (int address : new int[] {0, -1, 8, 256, Integer.MIN_VALUE, Integer.MAX_VALUE}) {
      x.outbound(3, 0, 7, 10);
      Checks.sent(x, 3);
      x.outbound(3, 0, -1, address);
      Checks.row("for nothing, address " + address, Checks.sent(x, 3), Checks.toldOut(NONE, 8, 10));
    }
  }

  private static void outboundRefused() {
    RouteSpeaker x = Checks.allUp();
    for (int[] no : NO_PREFIXES) {
      if (no[0] != -1) {
        Checks.refused("no prefix " + no[0] + ", " + no[1], Checks.ILLEGAL_ARGUMENT,
            () -> x.outbound(0, 0, no[0], no[1]));
      }
    }
    for (int length : new int[] {-2, 9}) {
      Checks.refused("length " + length, Checks.ILLEGAL_ARGUMENT, () -> x.outbound(0, 0, length, 0));
    }
    for (int padding : new int[] {-1, 4}) {
      Checks.refused("padding " + padding, Checks.ILLEGAL_ARGUMENT, () -> x.outbound(0, padding, -1, 0));
      Checks.refused("padding " + padding + ", no prefix", Checks.ILLEGAL_ARGUMENT, () -> x.outbound(0, padding, 9, 0));
    }
    Checks.refused("no peer", Checks.ILLEGAL_ARGUMENT, () -> x.outbound(4, 0, -1, 0));
    x.originate(0, 0);
    Checks.row("as before", Checks.sent(x, 0), Checks.toldOut(NONE, 0, 0));
  }

  private static void originate() {
    RouteSpeaker x = new RouteSpeaker();
    for (int[] no : NO_PREFIXES) {
      Checks.refused("no prefix " + no[0] + ", " + no[1], Checks.ILLEGAL_ARGUMENT, () -> x.originate(no[0], no[1]));
    }
    Checks.up(x, 0, 200, 20);
    Checks.announce(x, 0, Checks.plain(0), 8, 100);
    for (int i = 0; i < 11; i++) {
      Checks.same("originate", x.originate(8, i), true);
      Checks.same("again", x.originate(8, i), false);
    }
    Checks.refused("not known, and 12 are", Checks.ILLEGAL_STATE, () -> x.originate(8, 11));
    Checks.refused("the same, and shorter", Checks.ILLEGAL_STATE, () -> x.originate(7, 0));
    for (int[] no : NO_PREFIXES) {
      Checks.refused("no prefix, and 12 are known", Checks.ILLEGAL_ARGUMENT, () -> x.originate(no[0], no[1]));
    }
    Checks.same("a 12th that was announced", x.originate(8, 100), true);
    Checks.same("one that it does already", x.originate(8, 0), false);
    Checks.same("all of them", x.known(), 12);
  }

  private static void retract() {
    RouteSpeaker x = Checks.allUp();
    for (int[] no : NO_PREFIXES) {
      Checks.refused("no prefix " + no[0] + ", " + no[1], Checks.ILLEGAL_ARGUMENT, () -> x.retract(no[0], no[1]));
    }
    Checks.same("one that is not known", x.retract(8, 9), false);
    Checks.same("nor is it known by that", x.known(), 0);
    Checks.announce(x, 0, Checks.plain(0), 8, 9);
    Checks.same("one that a peer announced", x.retract(8, 9), false);
    x.originate(8, 9);
    x.originate(7, 8);
    Checks.same("retract", x.retract(8, 9), true);
    Checks.same("again", x.retract(8, 9), false);
    Checks.same("the peer's is left", x.best(8, 9, 0), 0);
    Checks.same("and another of the own", x.best(7, 8, 0), Checks.OWN);
    Checks.same("nothing is forgotten", x.known(), 2);
  }

  private static void start() {
    RouteSpeaker x = new RouteSpeaker();
    Checks.same("idle", x.start(2), true);
    Checks.same("SENT", x.start(2), false);
    Checks.feed(x, 2, 6, 1, 4, 202, 9, 20);
    Checks.same("AGREED", x.start(2), false);
    Checks.feed(x, 2, 2, 4);
    Checks.same("UP", x.start(2), false);
    Checks.row("one OPEN alone", Checks.sent(x, 2), 6, 1, 4, 100, 9, 7, 2, 4);
    Checks.row("timers, HOLD and ID stay", Checks.ints(x.session(2, 0), x.session(2, 1), x.session(2, 2),
        x.session(2, 3), x.session(2, 4)), 3, 9, 3, 9, 20);
    x.stop(2);
    Checks.same("idle again", x.start(2), true);
  }

  private static void stop() {
    for (int state = 0; state <= 3; state++) {
      RouteSpeaker x = new RouteSpeaker();
      Checks.bring(x, 1, state, 9);
      Checks.sent(x, 1);
      Checks.same("stop in " + state, x.stop(1), state > 0);
      Checks.row("NOTIFICATION", Checks.sent(x, 1), state > 0 ? Checks.ints(4, 3, 6, 2) : NONE);
      Checks.idle("stopped", x, 1);
      Checks.same("stop again", x.stop(1), false);
      Checks.row("nothing then", Checks.sent(x, 1));
    }
  }

  private static void lowestBytes() {
    for (int n = 1; n <= 8; n++) {
      int[] all = {6, 1, 4, 200, 255, 20, 2, 4};
      while (all.length % n != 0) {
        all = Checks.join(all, Checks.ints(2, 4));
      }
      RouteSpeaker x = new RouteSpeaker();
      x.start(0);
      for (int from = 0; from < all.length; from += n) {
        // What stands above the lowest n bytes must not be looked at.
        long bytes = -1L;
        for (int k = 0; k < n; k++) {
          bytes = bytes << 8 | all[from + k];
        }
        Checks.same("feed of " + n, x.feed(0, bytes, n), true);
      }
      Checks.row("UP by " + n + " bytes a call, and none left", Checks.ints(x.session(0, 0), x.session(0, 6)), 3, 0);
    }
    RouteSpeaker x = new RouteSpeaker();
    x.start(0);
    x.feed(0, 0x8000000000000000L, 8);
    Checks.row("the highest bit is of the first byte", Checks.sent(x, 0), 6, 1, 4, 100, 9, 7, 4, 3, 1, 2);
    x.start(0);
    x.feed(0, Long.MIN_VALUE | 0x3C, 1);
    Checks.same("one byte of 60", x.session(0, 0) * 10 + x.session(0, 6), 11);
    x.feed(0, -1L, 8);
    Checks.same("bytes of 255", x.session(0, 6), 9);
  }

  private static void fedWhenIdle() {
    RouteSpeaker x = new RouteSpeaker();
    Checks.same("idle before", x.feed(0, 0x0601L, 2), false);
    Checks.same("nothing has come", x.session(0, 6), 0);
    x.start(0);
    Checks.feed(x, 0, 6, 1, 4, 200, 9, 20);
    Checks.same("lost, and not before OPEN", x.session(0, 0), 2);
    Checks.same("closed within the call", x.feed(0, 0x0403000006010400L, 8), true);
    Checks.same("what came behind is lost", x.session(0, 6), 0);
    Checks.same("idle before", x.feed(0, 0x04L, 1), false);
    Checks.sent(x, 0);
    x.start(0);
    Checks.same("ended within the call", x.feed(0, 0x0009000000000000L, 8), true);
    Checks.row("once", Checks.sent(x, 0), 6, 1, 4, 100, 9, 7, 4, 3, 1, 2);
  }

  private static void feedRefused() {
    RouteSpeaker x = new RouteSpeaker();
    x.start(0);
    for (int n : new int[] {-1, 0, 9, 16, Integer.MIN_VALUE, Integer.MAX_VALUE}) {
      Checks.refused("n = " + n, Checks.ILLEGAL_ARGUMENT, () -> x.feed(0, 0x06L, n));
      Checks.refused("n = " + n + " when idle", Checks.ILLEGAL_ARGUMENT, () -> x.feed(1, 0x06L, n));
    }
    for (int p : new int[] {-1, 4}) {
      Checks.refused("peer " + p, Checks.ILLEGAL_ARGUMENT, () -> x.feed(p, 0x06L, 1));
    }
    Checks.same("nothing has come", x.session(0, 6), 0);
    Checks.same("n = 1", x.feed(0, 0x06L, 1), true);
    Checks.same("n = 8 when idle", x.feed(1, 0x06L, 8), false);
  }

  private static void take() {
    RouteSpeaker x = Checks.allUp(1, 1, 0, 0);
    Checks.announce(x, 0, Checks.join(Checks.inner(0, Checks.path(), 250, 255), Checks.ints(4, 1, 255)), 8, 255);
    Checks.row("0 and 255", Checks.sent(x, 1), 26, 2, 0, 20, 1, 1, 0, 2, 0, 3, 1, 250, 4, 1, 255, 5, 1, 255,
        9, 1, 20, 10, 1, 7, 8, 255);
    for (int p = 0; p < 2; p++) {
      int peer = p;
      Checks.refused("none", Checks.NO_ELEMENT, () -> x.take(peer));
    }
    for (int p : new int[] {-1, 4}) {
      Checks.refused("no peer", Checks.ILLEGAL_ARGUMENT, () -> x.take(p));
    }
    x.stop(0);
    Checks.row("one by one, each once", Checks.ints(x.take(0), x.take(0), x.take(0), x.take(0)), 4, 3, 6, 2);
    Checks.refused("none again", Checks.NO_ELEMENT, () -> x.take(0));
    x.start(0);
    Checks.same("one again", x.take(0), 6);
  }

  private static void tick() {
    RouteSpeaker x = new RouteSpeaker();
    for (int p = 0; p < 4; p++) {
      Checks.same(p + " are up", x.tick(), p);
      Checks.agree(x, p, 200 + p, 0, 20);
      Checks.same("AGREED is not up", x.tick(), p);
      Checks.feed(x, p, 2, 4);
    }
    Checks.same("all are up", x.tick(), 4);
    x.stop(2);
    Checks.same("three are up", x.tick(), 3);
    RouteSpeaker y = Checks.allUp();
    for (int k = 1; k <= 8; k++) {
      Checks.same("up", y.tick(), 4);
      Checks.feed(y, 3, 2, 4);
    }
    Checks.same("those that end by it are not", y.tick(), 1);
    closedByTheEndOfATick();
  }

  private static void closedByTheEndOfATick() {
    for (int bytes = 170; bytes <= 171; bytes++) {
      RouteSpeaker x = new RouteSpeaker();
      EdgeSent.fill(x, 1, bytes);
      Checks.agree(x, 1, 201, 0, 21);
      Checks.feed(x, 1, 2, 4);
      Checks.up(x, 0, 200, 20);
      Checks.announce(x, 0, Checks.plain(0), 8, 9);
      for (int k = 0; k < 8; k++) {
        Checks.same("both are up", x.tick(), 2);
      }
      Checks.same("told", x.session(1, 5), bytes + 8 + 16);
      Checks.same("one has room for the withdrawal by the end of the other, or not", x.tick(), bytes == 170 ? 1 : 0);
    }
  }

  private static void session() {
    RouteSpeaker x = new RouteSpeaker();
    sessionIs("IDLE", x, 0, 0, 0, 0, 0, 0, 0);
    x.start(3);
    sessionIs("SENT", x, 1, 8, 0, 0, 0, 6, 0);
    x.tick();
    x.feed(3, 0x060104L, 3);
    sessionIs("SENT, three bytes of OPEN", x, 1, 7, 0, 0, 0, 6, 3);
    x.feed(3, 0xCB0714L, 3);
    sessionIs("AGREED", x, 2, 7, 0, 7, 20, 8, 0);
    x.feed(3, 0x02L, 1);
    x.tick();
    sessionIs("AGREED, one byte of KEEPALIVE", x, 2, 6, 0, 7, 20, 8, 1);
    x.feed(3, 0x04L, 1);
    sessionIs("UP", x, 3, 7, 2, 7, 20, 8, 0);
    x.tick();
    x.take(3);
    sessionIs("UP, a tick, one byte taken", x, 3, 6, 1, 7, 20, 7, 0);
    x.feed(3, 0x3C02L, 2);
    sessionIs("UP, two bytes of an UPDATE", x, 3, 6, 1, 7, 20, 7, 2);
    x.stop(3);
    sessionIs("IDLE again", x, 0, 0, 0, 0, 0, 11, 0);
    Checks.agree(x, 3, 203, 0, 250);
    sessionIs("AGREED without HOLD", x, 2, 0, 0, 0, 250, 19, 0);
    Checks.feed(x, 3, 2, 4);
    sessionIs("UP without HOLD", x, 3, 0, 0, 0, 250, 19, 0);
  }

  private static void sessionIs(String what, RouteSpeaker x, int... dues) {
    for (int k = 0; k < dues.length; k++) {
      Checks.same(what + ": session(3, " + k + ")", x.session(3, k), dues[k]);
      Checks.same(what + ": session(2, " + k + ")", x.session(2, k), 0);
    }
  }

  private static void sessionOfNone() {
    RouteSpeaker x = Checks.allUp();
    int[] numbers = {-1, 4, 7, Integer.MIN_VALUE, Integer.MAX_VALUE};
    for (int number : numbers) {
      if (number != 4) {
        Checks.same("what = " + number, x.session(0, number), -1);
      }
      if (number != 7) {
        Checks.same("peer " + number, x.session(number, 0), -1);
        Checks.same("peer " + number + " and what = 7", x.session(number, 7), -1);
      }
    }
    Checks.same("the last one", x.session(3, 6), 0);
  }

  private static void best() {
    RouteSpeaker x = Checks.allUp(1, 0, 0, 0);
    int[] full = Checks.join(Checks.inner(2, Checks.path(11, 12, 13, 14, 15, 16, 17, 18), 250, 255),
        Checks.ints(4, 1, 255, 9, 1, 250, 10, 6, 21, 22, 23, 24, 25, 26));
    int[] none = Checks.inner(0, Checks.path(), 1, 0);
    Checks.announce(x, 0, full, 8, 9);
    bestIs("all there is", x, 0, 255, 2, 8, 250, 255, 250, 6, 11, 12, 13, 14, 15, 16, 17, 18, 21, 22, 23, 24, 25, 26);
    Checks.announce(x, 0, none, 8, 9);
    bestIs("nothing but what must be", x, 0, 0, 0, 0, 1, -1, 0, 0, 0, 0, 0, 0, 0, 0, 0, 0, 0, 0, 0, 0, 0, 0);
    Checks.announce(x, 0, Checks.join(Checks.inner(1, Checks.path(9), 2, 1), Checks.ints(4, 1, 0, 9, 1, 1, 10, 1, 8)),
        8, 9);
    bestIs("one of each", x, 0, 1, 1, 1, 2, 0, 1, 1, 9, 0, 0, 0, 0, 0, 0, 0, 8, 0, 0, 0, 0, 0);
    x.rule(0, 0, 0, 77);
    bestIs("another preference", x, 0, 77, 1, 1, 2, 0, 1, 1, 9, 0, 0, 0, 0, 0, 0, 0, 8, 0, 0, 0, 0, 0);
    Checks.announce(x, 3, Checks.outer(2, Checks.path(203, 203), 8), 8, 9);
    bestIs("an external one", x, 3, 100, 2, 2, 8, -1, 0, 0, 203, 203, 0, 0, 0, 0, 0, 0, 0, 0, 0, 0, 0, 0);
    x.originate(8, 9);
    bestIs("the own", x, 4, 100, 0, 0, 7, -1, 0, 0, 0, 0, 0, 0, 0, 0, 0, 0, 0, 0, 0, 0, 0, 0);
  }

  private static void bestIs(String what, RouteSpeaker x, int... dues) {
    Checks.same("all are looked at", dues.length, 22);
    for (int k = 0; k < dues.length; k++) {
      Checks.same(what + ": best(8, 9, " + k + ")", x.best(8, 9, k), dues[k]);
    }
  }

  private static void bestRefused() {
    RouteSpeaker x = Checks.allUp();
    x.originate(8, 9);
    for (int[] no : NO_PREFIXES) {
      Checks.refused("no prefix " + no[0] + ", " + no[1], Checks.ILLEGAL_ARGUMENT, () -> x.best(no[0], no[1], 0));
    }
    for (int what : new int[] {-1, 22, Integer.MIN_VALUE, Integer.MAX_VALUE}) {
      Checks.refused("what = " + what, Checks.ILLEGAL_ARGUMENT, () -> x.best(8, 9, what));
      Checks.refused("what = " + what + ", no route", Checks.ILLEGAL_ARGUMENT, () -> x.best(8, 8, what));
    }
    for (int what : new int[] {0, 21}) {
      Checks.refused("not known", Checks.NO_ELEMENT, () -> x.best(8, 8, what));
      Checks.refused("not known, and shorter", Checks.NO_ELEMENT, () -> x.best(7, 8, what));
    }
    x.retract(8, 9);
    Checks.refused("known, and no route", Checks.NO_ELEMENT, () -> x.best(8, 9, 0));
    x.rule(0, 0, 0, 0);
    Checks.announce(x, 0, Checks.plain(0), 8, 9);
    Checks.refused("only one that is rejected", Checks.NO_ELEMENT, () -> x.best(8, 9, 0));
  }

  private static void flaw() {
    // 1, 2 and 4 in all ways together.
    for (int due = 0; due <= 7; due++) {
      RouteSpeaker x = Checks.allUp();
      for (int k = 0; k < ((due & 2) == 2 ? 6 : 5); k++) {
        Checks.announce(x, 0, Checks.outer(0, (due & 1) == 1 ? Checks.path(200, 100) : Checks.path(200), 30 + k), 8, 9);
      }
      x.rule(0, 0, 0, (due & 4) == 4 ? 0 : 1);
      Checks.same("flaw", x.flaw(0, 8, 9), due);
      Checks.same("the best", Checks.outcome(() -> x.best(8, 9, 0)), due == 0 ? "0" : "NoSuchElementException");
    }
  }

  private static void flawRefused() {
    RouteSpeaker x = Checks.allUp();
    Checks.announce(x, 0, Checks.plain(0), 8, 9);
    for (int[] no : NO_PREFIXES) {
      Checks.refused("no prefix " + no[0] + ", " + no[1], Checks.ILLEGAL_ARGUMENT, () -> x.flaw(0, no[0], no[1]));
    }
    for (int p : new int[] {-1, 4}) {
      Checks.refused("peer " + p, Checks.ILLEGAL_ARGUMENT, () -> x.flaw(p, 8, 9));
    }
    Checks.same("of peer 0", x.flaw(0, 8, 9), 0);
    x.originate(8, 9);
    for (int p = 1; p < 4; p++) {
      int peer = p;
      Checks.refused("no route of peer " + p, Checks.NO_ELEMENT, () -> x.flaw(peer, 8, 9));
    }
    Checks.refused("not known", Checks.NO_ELEMENT, () -> x.flaw(0, 8, 8));
    Checks.withdraw(x, 0, 8, 9);
    Checks.refused("withdrawn", Checks.NO_ELEMENT, () -> x.flaw(0, 8, 9));
  }

  private static void penalty() {
    RouteSpeaker x = Checks.allUp();
    for (int[] no : NO_PREFIXES) {
      Checks.refused("no prefix " + no[0] + ", " + no[1], Checks.ILLEGAL_ARGUMENT, () -> x.penalty(0, no[0], no[1]));
    }
    for (int p : new int[] {-1, 4}) {
      Checks.refused("peer " + p, Checks.ILLEGAL_ARGUMENT, () -> x.penalty(p, 8, 9));
    }
    Checks.same("not known", x.penalty(3, 8, 9), 0.0);
    Checks.announce(x, 3, Checks.plain(3), 8, 9);
    Checks.same("nothing was counted", x.penalty(3, 8, 9), 0.0);
    Checks.withdraw(x, 3, 8, 9);
    Checks.same("counted", x.penalty(3, 8, 9), 1000.0);
    x.tick();
    Checks.same("behind a tick", x.penalty(3, 8, 9), 875.0);
    Checks.same("not known beside it", x.penalty(3, 7, 8), 0.0);
  }

  private static void forward() {
    RouteSpeaker x = new RouteSpeaker();
    int[] peers = {4, 0, 1, 2, 3, 0, 1, 2, 3};
    for (int p = 0; p < 4; p++) {
      Checks.up(x, p, 200 + p, 20 + p);
    }
    for (int length = 1; length <= 8; length++) {
      int p = peers[length];
      Checks.announce(x, p, Checks.plain(p), length, 0xA5 >> (8 - length) << (8 - length));
    }
    x.originate(0, 0);
    for (int address = 0; address <= 255; address++) {
      int alike = 0;
      while (alike < 8 && (address >> (7 - alike) & 1) == (0xA5 >> (7 - alike) & 1)) {
        alike++;
      }
      Checks.same("forward " + address, x.forward(address), peers[alike]);
    }
    for (int p = 3; p >= 0; p--) {
      x.rule(p, 0, 0, 0);
    }
    Checks.same("all but the own are rejected", x.forward(0xA5), Checks.OWN);
    x.unrule(2);
    Checks.same("a shorter one, if the longer ones have no best", x.forward(0xA5), 2);
    Checks.same("a still shorter one", x.forward(0xA0), 2);
    x.retract(0, 0);
    Checks.refused("none", Checks.NO_ELEMENT, () -> x.forward(0));
  }

  private static void forwardRefused() {
    RouteSpeaker x = new RouteSpeaker();
    for (int known = 0; known <= 1; known++) {
      for (int address : new int[] {-1, 256, Integer.MIN_VALUE, Integer.MAX_VALUE}) {
        Checks.refused("forward " + address, Checks.ILLEGAL_ARGUMENT, () -> x.forward(address));
      }
      for (int address : new int[] {0, 255}) {
        Checks.same("forward " + address, Checks.outcome(() -> x.forward(address)),
            known == 0 ? "NoSuchElementException" : "4");
      }
      x.originate(0, 0);
    }
    x.retract(0, 0);
    x.originate(8, 0);
    Checks.same("the only address", x.forward(0), Checks.OWN);
    Checks.refused("the next one", Checks.NO_ELEMENT, () -> x.forward(1));
  }

  private static void known() {
    RouteSpeaker x = new RouteSpeaker();
    for (int k = 0; k < 12; k++) {
      Checks.same("known", x.known(), k);
      x.originate(8, k);
      x.originate(8, k);
    }
    Checks.same("known", x.known(), 12);
    x.forward(3);
    x.penalty(0, 8, 99);
    x.retract(8, 99);
    Checks.same("looking makes none known", x.known(), 12);
  }
}
