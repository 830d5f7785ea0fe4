import java.util.Arrays;

/** The sentences about messages, sessions and timers. */
final class EdgeSessions {
  private static final int[] OPEN = {6, 1, 4, 200, 9, 20};
  private static final int[] OPEN_SENT = {6, 1, 4, 100, 9, 7};
  private static final int[] KEEPALIVE = {2, 4};
  private static final int[] KEEPALIVE_OF_60 = {60, 4};

  private EdgeSessions() {}

  static void run() {
    Sentences.holds("MESSAGES are bytes: a SIZE, 2 .. 60, how many they are in all, a TYPE, and the rest.",
        EdgeSessions::sizes);
    Sentences.holds("1 OPEN (6 bytes): the VERSION 4, a network, a HOLD time, an ID.", EdgeSessions::open);
    Sentences.holds("2 UPDATE. 3 NOTIFICATION (4 bytes): a CODE and a SUBCODE.", EdgeSessions::notification);
    Sentences.holds("4 KEEPALIVE (2 bytes).", EdgeSessions::keepalive);
    Sentences.holds("A SESSION is 0 IDLE, 1 SENT, 2 AGREED or 3 UP.", EdgeSessions::states);
    Sentences.holds("STARTING an idle one: OPEN (4, 100, 9, 7) is sent, it is SENT, its HOLD TIMER is 8.",
        EdgeSessions::starting);
    Sentences.holds("To END one with a code and subcode: a NOTIFICATION is sent, and it is IDLE; "
        + "to CLOSE one: it is IDLE.", EdgeSessions::endingAndClosing);
    Sentences.holds("What had come in of a message is gone then,", EdgeSessions::partsGone);
    Sentences.holds("and all routes of this peer are no longer there.", EdgeSessions::routesGone);
    Sentences.holds("Bytes come in one by one; a message is looked at when its last byte is there;",
        EdgeSessions::lastByte);
    Sentences.holds("with a size below 2 or above 60 as soon as that byte is there: END 1, 2.",
        EdgeSessions::wrongSizes);
    Sentences.holds("Then: END 1, 3 if the type is not 1 .. 4.", EdgeSessions::types);
    Sentences.holds("END 1, 2 if the size is not that of its type (UPDATE: at least 4).", EdgeSessions::sizesOfTypes);
    Sentences.holds("A NOTIFICATION closes the session.", EdgeSessions::closedByNotification);
    Sentences.holds("Otherwise in SENT: END 5, 1 if it is not OPEN.", EdgeSessions::notOpen);
    Sentences.holds("END 2, 1 if the version is not 4.", () -> openWith(2, 1, new int[] {0, 3, 5, 255}, 4));
    Sentences.holds("END 2, 2 if the network is not the peer's.",
        () -> openWith(3, 2, new int[] {0, 100, 199, 201, 251, 255}, 200));
    Sentences.holds("END 2, 3 if the ID is not 1 .. 250, or is 7.",
        () -> openWith(5, 3, new int[] {0, 7, 251, 255}, 1, 6, 8, 100, 250));
    Sentences.holds("END 2, 6 if the hold time is 1 or 2.", () -> openWith(4, 6, new int[] {1, 2}, 0, 3, 255));
    Sentences.holds("Else the session's HOLD is the lesser of 9 and the hold time (0 is without any timer), "
        + "KEEPALIVE is sent, it is AGREED, and the hold timer is HOLD.", EdgeSessions::agreeing);
    Sentences.holds("In AGREED: END 5, 2 if it is not KEEPALIVE;", EdgeSessions::notKeepalive);
    Sentences.holds("else it is UP, the hold timer and the KEEP TIMER (a third of HOLD, rounded down) begin,",
        EdgeSessions::comingUp);
    Sentences.holds("and what is to be told is told.", EdgeSessions::toldWhenUp);
    Sentences.holds("In UP: END 5, 3 for OPEN.", EdgeSessions::openWhenUp);
    Sentences.holds("Otherwise the hold timer begins again; UPDATE is taken in.", EdgeSessions::holdTimerAgain);
  }

  /** A session of peer 0 in a state, with nothing of what was sent left. */
  private static RouteSpeaker inState(int state) {
    RouteSpeaker x = new RouteSpeaker();
    Checks.bring(x, 0, state, 9);
    Checks.sent(x, 0);
    return x;
  }

  private static void ends(int state, int code, int subcode, int... bytes) {
    RouteSpeaker x = inState(state);
    Checks.feed(x, 0, bytes);
    Checks.ended(Arrays.toString(bytes) + " in state " + state, x, 0, code, subcode);
  }

  private static void endsInAll(int code, int subcode, int... bytes) {
    for (int state = 1; state <= 3; state++) {
      ends(state, code, subcode, bytes);
    }
  }

  private static int[] longUpdate(int size) {
    return Checks.update(Checks.NOTHING, Checks.attribute(200, new int[size - 6]));
  }

  private static void sizes() {
    RouteSpeaker x = inState(3);
    for (int size : new int[] {2, 59, 60}) {
      Checks.feed(x, 0, size == 2 ? KEEPALIVE : longUpdate(size));
      Checks.same("a size of " + size, x.session(0, 0), 3);
      Checks.same("all of it was looked at", x.session(0, 6), 0);
    }
    endsInAll(1, 2, 1);
    endsInAll(1, 2, 61);
  }

  private static void open() {
    RouteSpeaker x = inState(1);
    Checks.feed(x, 0, 6, 1, 4, 200, 5, 20);
    Checks.row("state, HOLD and ID", Checks.ints(x.session(0, 0), x.session(0, 3), x.session(0, 4)), 2, 5, 20);
    endsInAll(1, 2, 5, 1, 4, 200, 9);
    endsInAll(1, 2, 7, 1, 4, 200, 9, 20, 0);
  }

  private static void notification() {
    endsInAll(1, 2, 3, 3, 6);
    endsInAll(1, 2, 5, 3, 6, 2, 0);
    for (int code : new int[] {0, 6, 255}) {
      RouteSpeaker x = inState(2);
      Checks.feed(x, 0, 4, 3, code, 255 - code);
      Checks.idle("any code and subcode", x, 0);
    }
    RouteSpeaker x = inState(3);
    x.stop(0);
    Checks.row("the one that is sent", Checks.sent(x, 0), 4, 3, 6, 2);
  }

  private static void keepalive() {
    endsInAll(1, 2, 3, 4, 0);
    endsInAll(1, 2, Arrays.copyOf(KEEPALIVE_OF_60, 60));
    RouteSpeaker x = inState(2);
    Checks.feed(x, 0, 2, 4);
    Checks.same("of two bytes", x.session(0, 0), 3);
  }

  private static void states() {
    RouteSpeaker x = new RouteSpeaker();
    Checks.same("IDLE", x.session(3, 0), 0);
    x.start(3);
    Checks.same("SENT", x.session(3, 0), 1);
    Checks.feed(x, 3, 6, 1, 4, 203, 9, 20);
    Checks.same("AGREED", x.session(3, 0), 2);
    Checks.feed(x, 3, 2, 4);
    Checks.same("UP", x.session(3, 0), 3);
    Checks.feed(x, 3, 6, 1, 4, 203, 9, 20);
    Checks.same("IDLE again", x.session(3, 0), 0);
    for (int p = 0; p < 3; p++) {
      Checks.same("another one's", x.session(p, 0), 0);
    }
  }

  private static void starting() {
    RouteSpeaker x = new RouteSpeaker();
    x.start(0);
    Checks.row("OPEN", Checks.sent(x, 0), OPEN_SENT);
    Checks.row("SENT, hold timer, no keep timer, HOLD or ID", Checks.ints(x.session(0, 0), x.session(0, 1),
        x.session(0, 2), x.session(0, 3), x.session(0, 4)), 1, 8, 0, 0, 0);
    for (int k = 1; k <= 7; k++) {
      x.tick();
    }
    Checks.same("the last of eight", x.session(0, 0) * 10 + x.session(0, 1), 11);
    x.tick();
    Checks.ended("at the eighth tick", x, 0, 4, 0);
    x.start(0);
    Checks.same("8 again", x.session(0, 1), 8);
  }

  private static void endingAndClosing() {
    for (int state = 1; state <= 3; state++) {
      RouteSpeaker x = inState(state);
      x.stop(0);
      Checks.ended("ended in " + state, x, 0, 6, 2);
      RouteSpeaker y = inState(state);
      Checks.feed(y, 0, 4, 3, 6, 2);
      Checks.row("nothing is sent for closing in " + state, Checks.sent(y, 0));
      Checks.idle("closed in " + state, y, 0);
    }
  }

  private static void partsGone() {
    for (int state = 1; state <= 3; state++) {
      RouteSpeaker x = inState(state);
      Checks.feed(x, 0, 6, 1, 4);
      Checks.same("three have come", x.session(0, 6), 3);
      x.stop(0);
      Checks.same("none behind the end", x.session(0, 6), 0);
      Checks.sent(x, 0);
      x.start(0);
      Checks.same("nor in the next session", x.session(0, 6), 0);
      Checks.feed(x, 0, OPEN);
      Checks.same("whose first message begins anew", x.session(0, 0), 2);
    }
    RouteSpeaker x = inState(1);
    Checks.feed(x, 0, 6, 1, 4);
    for (int k = 0; k < 8; k++) {
      x.tick();
    }
    Checks.ended("by the hold timer", x, 0, 4, 0);
  }

  /** Ends or closes the session of peer 0 in one of the ways there are. */
  private static void leave(RouteSpeaker x, int way) {
    if (way == 0) {
      x.stop(0);
    } else if (way == 1) {
      Checks.feed(x, 0, 4, 3, 0, 0);
    } else if (way == 2) {
      x.feed(0, 61, 1);
    } else if (way == 3) {
      Checks.feed(x, 0, 4, 2, 1, 0);
    } else {
      for (int k = 1; k <= 9; k++) {
        Checks.feed(x, 1, 2, 4);
        x.tick();
      }
    }
  }

  private static void routesGone() {
    for (int way = 0; way < 5; way++) {
      RouteSpeaker x = Checks.allUp();
      Checks.announce(x, 0, Checks.plain(0), 8, 9, 0, 0);
      Checks.announce(x, 1, Checks.plain(1), 0, 0);
      Checks.sent(x, 1);
      leave(x, way);
      Checks.idle("left by way " + way, x, 0);
      Checks.refused("gone", Checks.NO_ELEMENT, () -> x.flaw(0, 8, 9));
      Checks.refused("gone, too", Checks.NO_ELEMENT, () -> x.flaw(0, 0, 0));
      Checks.refused("no best route", Checks.NO_ELEMENT, () -> x.best(8, 9, 0));
      Checks.same("another peer's stays", x.best(0, 0, 0), 1);
      int[] all = Checks.sent(x, 1);
      Checks.row("another peer is told", Arrays.copyOfRange(all, all.length - 12, all.length),
          6, 2, 1, 8, 9, 0, 6, 2, 1, 0, 0, 0);
      Checks.up(x, 0, 200, 20);
      Checks.refused("not there in the next session", Checks.NO_ELEMENT, () -> x.flaw(0, 8, 9));
    }
  }

  private static void lastByte() {
    RouteSpeaker x = inState(1);
    for (int k = 0; k < OPEN.length; k++) {
      Checks.same("so many have come", x.session(0, 6), k);
      Checks.same("still SENT", x.session(0, 0), 1);
      x.feed(0, OPEN[k], 1);
    }
    Checks.same("AGREED at the last byte", x.session(0, 0) * 10 + x.session(0, 6), 20);
    RouteSpeaker y = inState(3);
    int[] wrong = {60, 9};
    for (int k = 0; k < 59; k++) {
      y.feed(0, k < 2 ? wrong[k] : 0, 1);
      Checks.same("a wrong type waits for its last byte", y.session(0, 6), k + 1);
    }
    y.feed(0, 0, 1);
    Checks.ended("the 60th", y, 0, 1, 3);
    RouteSpeaker z = inState(1);
    z.feed(0, 0x060104C809140204L, 8);
    Checks.same("two messages in a call", z.session(0, 0), 3);
    z.feed(0, 0x020402040204L, 6);
    Checks.feed(z, 0, 2, 4, 2);
    Checks.same("the first byte of the next one", z.session(0, 6), 1);
  }

  private static void wrongSizes() {
    for (int size : new int[] {0, 1, 61, 62, 255}) {
      endsInAll(1, 2, size);
      for (int state = 1; state <= 3; state++) {
        RouteSpeaker x = inState(state);
        Checks.feed(x, 0, size, 9, 9, 2, 4);
        Checks.ended("and what comes behind it is lost", x, 0, 1, 2);
      }
    }
    for (int size : new int[] {2, 60}) {
      RouteSpeaker x = inState(1);
      x.feed(0, size, 1);
      Checks.same("not for " + size, x.session(0, 0) * 10 + x.session(0, 6), 11);
    }
  }

  private static void types() {
    for (int type : new int[] {0, 5, 6, 255}) {
      endsInAll(1, 3, 2, type);
      endsInAll(1, 3, 3, type, 0);
      endsInAll(1, 3, 6, type, 4, 200, 9, 20);
    }
    ends(1, 5, 1, 2, 4);
    ends(2, 5, 2, 6, 1, 4, 200, 9, 20);
    ends(2, 5, 2, 4, 2, 0, 0);
  }

  private static void sizesOfTypes() {
    endsInAll(1, 2, 2, 1);
    endsInAll(1, 2, 5, 1, 3, 0, 0);
    endsInAll(1, 2, 7, 1, 3, 0, 0, 0, 0);
    endsInAll(1, 2, 2, 2);
    endsInAll(1, 2, 3, 2, 0);
    endsInAll(1, 2, 2, 3);
    endsInAll(1, 2, 3, 3, 0);
    endsInAll(1, 2, 5, 3, 0, 0, 0);
    endsInAll(1, 2, 3, 4, 0);
    RouteSpeaker x = inState(3);
    Checks.feed(x, 0, 4, 2, 0, 0);
    Checks.same("an UPDATE of 4", x.session(0, 0), 3);
    Checks.feed(x, 0, longUpdate(60));
    Checks.same("an UPDATE of 60", x.session(0, 0), 3);
  }

  private static void closedByNotification() {
    for (int state = 1; state <= 3; state++) {
      RouteSpeaker x = inState(state);
      Checks.same("feed", x.feed(0, 0x04030501L, 4), true);
      Checks.row("nothing is sent", Checks.sent(x, 0));
      Checks.idle("closed in " + state, x, 0);
      Checks.same("feed when it is closed", x.feed(0, 0x04030501L, 4), false);
    }
  }

  private static void notOpen() {
    ends(1, 5, 1, 2, 4);
    ends(1, 5, 1, 4, 2, 0, 0);
    ends(1, 5, 1, longUpdate(60));
    ends(1, 5, 1, 5, 2, 255, 255, 255);
  }

  /** Another value at a place of OPEN ends the session with 2 and a subcode; the others don't. */
  private static void openWith(int place, int subcode, int[] wrongs, int... goods) {
    for (int value : wrongs) {
      int[] open = OPEN.clone();
      open[place] = value;
      ends(1, 2, subcode, open);
      // What is tested later may be wrong, too.
      int[] order = {2, 3, 5, 4};
      int[] bad = {3, 201, 7, 1};
      for (int k = 3; k >= 0 && order[k] != place; k--) {
        open[order[k]] = bad[k];
        ends(1, 2, subcode, open);
      }
    }
    for (int value : goods) {
      int[] open = OPEN.clone();
      open[place] = value;
      RouteSpeaker x = inState(1);
      Checks.feed(x, 0, open);
      Checks.same("a value of " + value, x.session(0, 0), 2);
    }
  }

  private static void agreeing() {
    int[][] times = {{0, 0}, {3, 3}, {4, 4}, {8, 8}, {9, 9}, {10, 9}, {255, 9}};
    for (int[] time : times) {
      RouteSpeaker x = inState(1);
      x.tick();
      Checks.feed(x, 0, 6, 1, 4, 200, time[0], 20);
      Checks.row("AGREED, hold timer, keep timer, HOLD, ID", Checks.ints(x.session(0, 0), x.session(0, 1),
          x.session(0, 2), x.session(0, 3), x.session(0, 4)), 2, time[1], 0, time[1], 20);
      Checks.row("KEEPALIVE", Checks.sent(x, 0), 2, 4);
    }
    RouteSpeaker x = new RouteSpeaker();
    Checks.agree(x, 0, 200, 0, 20);
    for (int k = 0; k < 20; k++) {
      x.tick();
    }
    Checks.feed(x, 0, 2, 4);
    Checks.sent(x, 0);
    for (int k = 0; k < 20; k++) {
      Checks.same("0 is without any timer", x.tick(), 1);
    }
    Checks.same("not even for KEEPALIVE", x.session(0, 5), 0);
  }

  private static void notKeepalive() {
    ends(2, 5, 2, OPEN);
    ends(2, 5, 2, 6, 1, 3, 0, 1, 0);
    ends(2, 5, 2, 4, 2, 0, 0);
    ends(2, 5, 2, 4, 2, 255, 255);
    RouteSpeaker x = inState(2);
    Checks.feed(x, 0, 2, 4);
    Checks.same("KEEPALIVE", x.session(0, 0), 3);
  }

  private static void comingUp() {
    int[][] times = {{0, 0, 0}, {3, 3, 1}, {4, 4, 1}, {5, 5, 1}, {6, 6, 2}, {7, 7, 2}, {8, 8, 2}, {9, 9, 3},
        {10, 9, 3}, {255, 9, 3}};
    for (int[] time : times) {
      RouteSpeaker x = new RouteSpeaker();
      Checks.agree(x, 0, 200, time[0], 20);
      x.tick();
      x.tick();
      Checks.feed(x, 0, 2, 4);
      Checks.row("UP, hold timer, keep timer, HOLD, ID", Checks.ints(x.session(0, 0), x.session(0, 1),
          x.session(0, 2), x.session(0, 3), x.session(0, 4)), 3, time[1], time[2], time[1], 20);
    }
  }

  private static void toldWhenUp() {
    RouteSpeaker x = new RouteSpeaker();
    Checks.up(x, 0, 200, 20);
    Checks.row("nothing is to be told", Checks.sent(x, 0), 6, 1, 4, 100, 9, 7, 2, 4);
    x.originate(8, 9);
    x.originate(0, 0);
    Checks.agree(x, 1, 201, 9, 21);
    Checks.row("not before", Checks.sent(x, 1), 6, 1, 4, 100, 9, 7, 2, 4);
    Checks.feed(x, 1, 2, 4);
    Checks.row("all of it", Checks.sent(x, 1),
        Checks.join(Checks.toldOut(Checks.NOTHING, 8, 9), Checks.toldOut(Checks.NOTHING, 0, 0)));
    Checks.feed(x, 1, 2, 4);
    Checks.row("not by another KEEPALIVE", Checks.sent(x, 1));
  }

  private static void openWhenUp() {
    ends(3, 5, 3, OPEN);
    ends(3, 5, 3, 6, 1, 3, 0, 1, 0);
  }

  private static void holdTimerAgain() {
    int[] announced = Checks.update(Checks.NOTHING, Checks.plain(0), 8, 9);
    for (int[] message : new int[][] {KEEPALIVE, {4, 2, 0, 0}, announced}) {
      RouteSpeaker x = inState(3);
      for (int k = 1; k <= 8; k++) {
        x.tick();
      }
      Checks.same("the last of nine", x.session(0, 1), 1);
      Checks.feed(x, 0, Arrays.copyOf(message, message.length - 1));
      Checks.same("not before the last byte", x.session(0, 1), 1);
      x.feed(0, message[message.length - 1], 1);
      Checks.same("9 again", x.session(0, 1), 9);
      Checks.same("the keep timer goes on", x.session(0, 2), 1);
      Checks.same("UPDATE is taken in", x.known(), message == announced ? 1 : 0);
    }
    RouteSpeaker x = new RouteSpeaker();
    Checks.agree(x, 0, 200, 5, 20);
    Checks.feed(x, 0, 2, 4);
    x.tick();
    Checks.feed(x, 0, 2, 4);
    Checks.same("at HOLD", x.session(0, 1), 5);
  }
}
