import java.util.Arrays;

/** Promises 8 to 13: start, stop, feed (all messages but what is in an UPDATE), take, tick, session. */
final class SessionTest {
  private static final int[] OPEN_SENT = {6, 1, 4, 100, 9, 7};

  public static void main(String[] args) {
    starting();
    stopping();
    wrongPeers();
    openTests();
    sizeAndType();
    wrongInState();
    notifications();
    holdTimes();
    bytesOneByOne();
    severalMessagesInOneCall();
    taking();
    sentTimesOut();
    agreedTimesOut();
    upTimesOut();
    keepalives();
    withoutHold();
    ticksInOrder();
    sessionNumbers();
    Checks.finish();
  }

  private static void starting() {
    RouteSpeaker x = new RouteSpeaker();
    for (int p = 0; p < 4; p++) {
      Checks.same("start", x.start(p), true);
      Checks.same("start again", x.start(p), false);
      Checks.same("SENT", x.session(p, 0), 1);
      Checks.same("hold timer", x.session(p, 1), 8);
      Checks.same("keep timer", x.session(p, 2), 0);
      Checks.row("OPEN", Checks.sent(x, p), OPEN_SENT);
    }
    Checks.feed(x, 0, 6, 1, 4, 200, 9, 20);
    Checks.same("start when agreed", x.start(0), false);
    Checks.feed(x, 0, 2, 4);
    Checks.same("start when up", x.start(0), false);
    Checks.same("still up", x.session(0, 0), 3);
  }

  private static void stopping() {
    RouteSpeaker x = Checks.allUp();
    Checks.announce(x, 0, Checks.plain(0), 8, 9);
    Checks.feed(x, 0, 9, 2, 0);
    Checks.same("part of a message", x.session(0, 6), 3);
    Checks.same("stop", x.stop(0), true);
    Checks.row("END 6, 2", Checks.sent(x, 0), 4, 3, 6, 2);
    for (int what = 0; what <= 6; what++) {
      Checks.same("stopped session(0, " + what + ")", x.session(0, what), 0);
    }
    Checks.fails("its route is gone", Checks.NO_ELEMENT, () -> x.flaw(0, 8, 9));
    Checks.row("and withdrawn", Checks.sent(x, 1),
        16, 2, 0, 10, 1, 1, 0, 2, 2, 100, 200, 3, 1, 7, 8, 9, 6, 2, 1, 8, 9, 0);
    Checks.same("no penalty by that", x.penalty(0, 8, 9), 0.0);
    Checks.same("stop when idle", x.stop(0), false);
    x.start(0);
    Checks.same("nothing of the message is left", x.session(0, 6), 0);
    Checks.same("stop when SENT", x.stop(0), true);
    Checks.agree(x, 0, 200, 9, 20);
    Checks.same("stop when AGREED", x.stop(0), true);
    Checks.same("idle", x.session(0, 0), 0);
  }

  private static void wrongPeers() {
    RouteSpeaker x = new RouteSpeaker();
    for (int p : new int[] {-1, 4, Integer.MIN_VALUE, Integer.MAX_VALUE}) {
      Checks.fails("start " + p, Checks.ILLEGAL_ARGUMENT, () -> x.start(p));
      Checks.fails("stop " + p, Checks.ILLEGAL_ARGUMENT, () -> x.stop(p));
      Checks.fails("feed " + p, Checks.ILLEGAL_ARGUMENT, () -> x.feed(p, 0, 1));
      Checks.fails("take " + p, Checks.ILLEGAL_ARGUMENT, () -> x.take(p));
      Checks.same("session " + p, x.session(p, 0), -1);
    }
    x.start(0);
    for (int n : new int[] {-1, 0, 9, 64}) {
      Checks.fails("feed of " + n, Checks.ILLEGAL_ARGUMENT, () -> x.feed(0, 0, n));
      Checks.fails("feed of " + n + " when idle", Checks.ILLEGAL_ARGUMENT, () -> x.feed(1, 0, n));
    }
    Checks.same("nothing came in", x.session(0, 6), 0);
    Checks.same("still SENT", x.session(0, 0), 1);
  }

  private static void openTests() {
    open("version before the network", 2, 1, 6, 1, 5, 1, 1, 0);
    open("version 3", 2, 1, 6, 1, 3, 200, 9, 20);
    open("network before the ID", 2, 2, 6, 1, 4, 201, 1, 0);
    open("ID 0 before the hold time", 2, 3, 6, 1, 4, 200, 1, 0);
    open("ID 251", 2, 3, 6, 1, 4, 200, 9, 251);
    open("ID 7", 2, 3, 6, 1, 4, 200, 9, 7);
    open("hold time 1", 2, 6, 6, 1, 4, 200, 1, 20);
    open("hold time 2", 2, 6, 6, 1, 4, 200, 2, 20);
    open("KEEPALIVE when SENT", 5, 1, 2, 4);
    open("UPDATE when SENT", 5, 1, 4, 2, 0, 0);
    for (int id : new int[] {1, 6, 8, 250}) {
      RouteSpeaker x = new RouteSpeaker();
      Checks.agree(x, 0, 200, 3, id);
      Checks.same("ID " + id, x.session(0, 4), id);
    }
  }

  private static void open(String what, int code, int subcode, int... bytes) {
    RouteSpeaker x = new RouteSpeaker();
    x.start(0);
    Checks.feed(x, 0, bytes);
    Checks.row(what, Checks.sent(x, 0), Checks.join(OPEN_SENT, Checks.ints(4, 3, code, subcode)));
    for (int k = 0; k <= 6; k++) {
      Checks.same(what + ": session(0, " + k + ")", x.session(0, k), 0);
    }
  }

  private static void sizeAndType() {
    for (int state = 1; state <= 3; state++) {
      ends("size 0", state, 1, 2, 0);
      ends("size 1", state, 1, 2, 1);
      ends("size 61", state, 1, 2, 61);
      ends("size 255", state, 1, 2, 255);
      ends("type 0", state, 1, 3, 2, 0);
      ends("type 5", state, 1, 3, 2, 5);
      ends("type 255 behind three bytes", state, 1, 3, 3, 255, 0);
      ends("an OPEN of five", state, 1, 2, 5, 1, 4, 200, 9);
      ends("an OPEN of seven", state, 1, 2, 7, 1, 4, 200, 9, 20, 0);
      ends("an UPDATE of three", state, 1, 2, 3, 2, 0);
      ends("a NOTIFICATION of three", state, 1, 2, 3, 3, 1);
      ends("a NOTIFICATION of five", state, 1, 2, 5, 3, 1, 1, 1);
      ends("a KEEPALIVE of three", state, 1, 2, 3, 4, 0);
    }
    RouteSpeaker x = inState(1);
    x.feed(0, 60, 1);
    Checks.feed(x, 0, 9, 0, 0, 0, 0, 0, 0, 0);
    Checks.same("it waits for the last byte", x.session(0, 6), 9);
    int[] rest = new int[50];
    Checks.feed(x, 0, rest);
    Checks.same("59 bytes", x.session(0, 6), 59);
    x.feed(0, 0, 1);
    Checks.row("looked at then", Checks.sent(x, 0), 4, 3, 1, 3);
  }

  /** A session that is SENT, AGREED or UP, and nothing sent. */
  private static RouteSpeaker inState(int state) {
    RouteSpeaker x = new RouteSpeaker();
    Checks.bring(x, 0, state, 9);
    Checks.sent(x, 0);
    return x;
  }

  private static void ends(String what, int state, int code, int subcode, int... bytes) {
    RouteSpeaker x = inState(state);
    int[] allButLast = Arrays.copyOf(bytes, bytes.length - 1);
    Checks.feed(x, 0, allButLast);
    Checks.same(what + " in " + state + ": before the last byte", x.session(0, 0), state);
    Checks.same(what + " in " + state, x.feed(0, bytes[bytes.length - 1], 1), true);
    Checks.row(what + " in " + state, Checks.sent(x, 0), 4, 3, code, subcode);
    Checks.same(what + " in " + state + ": idle", x.session(0, 0), 0);
    Checks.same(what + " in " + state + ": nothing of it left", x.session(0, 6), 0);
  }

  private static void wrongInState() {
    ends("OPEN", 2, 5, 2, 6, 1, 4, 200, 9, 20);
    ends("UPDATE", 2, 5, 2, 4, 2, 0, 0);
    ends("OPEN", 3, 5, 3, 6, 1, 4, 200, 9, 20);
    ends("a wrong OPEN", 3, 5, 3, 6, 1, 5, 0, 1, 0);
  }

  private static void notifications() {
    for (int state = 1; state <= 3; state++) {
      RouteSpeaker x = inState(state);
      Checks.feed(x, 0, 4, 3, 250, 0);
      Checks.row("nothing is sent for it", Checks.sent(x, 0));
      for (int k = 0; k <= 6; k++) {
        Checks.same("closed in " + state + ": session(0, " + k + ")", x.session(0, k), 0);
      }
    }
    RouteSpeaker x = Checks.allUp();
    Checks.announce(x, 0, Checks.plain(0), 8, 9);
    Checks.feed(x, 0, 4, 3, 6, 2);
    Checks.fails("the routes are gone", Checks.NO_ELEMENT, () -> x.best(8, 9, 0));
  }

  private static void holdTimes() {
    int[][] times = {{0, 0, 0}, {3, 3, 1}, {4, 4, 1}, {5, 5, 1}, {6, 6, 2}, {8, 8, 2}, {9, 9, 3}, {10, 9, 3}, {255, 9, 3}};
    for (int[] time : times) {
      RouteSpeaker x = new RouteSpeaker();
      Checks.agree(x, 0, 200, time[0], 20);
      Checks.same(time[0] + ": AGREED", x.session(0, 0), 2);
      Checks.same(time[0] + ": HOLD", x.session(0, 3), time[1]);
      Checks.same(time[0] + ": hold timer", x.session(0, 1), time[1]);
      Checks.same(time[0] + ": no keep timer yet", x.session(0, 2), 0);
      Checks.same(time[0] + ": ID", x.session(0, 4), 20);
      Checks.row(time[0] + ": KEEPALIVE", Checks.sent(x, 0), 6, 1, 4, 100, 9, 7, 2, 4);
      x.tick();
      Checks.feed(x, 0, 2, 4);
      Checks.same(time[0] + ": UP", x.session(0, 0), 3);
      Checks.same(time[0] + ": the hold timer begins", x.session(0, 1), time[1]);
      Checks.same(time[0] + ": the keep timer begins", x.session(0, 2), time[2]);
      Checks.row(time[0] + ": nothing to tell", Checks.sent(x, 0));
    }
  }

  private static void bytesOneByOne() {
    RouteSpeaker x = new RouteSpeaker();
    Checks.same("feed when idle", x.feed(0, 6, 1), false);
    Checks.same("is lost", x.session(0, 6), 0);
    x.start(0);
    int[] open = {6, 1, 4, 200, 9, 20};
    for (int i = 0; i < open.length; i++) {
      Checks.same("how many have come", x.session(0, 6), i);
      Checks.same("feed", x.feed(0, open[i] | 0xABCDEF00L, 1), true);
    }
    Checks.same("the lowest n are taken", x.session(0, 0), 2);
    Checks.same("none has come", x.session(0, 6), 0);
    Checks.same("the highest first", x.feed(0, 0x7777020402L, 3), true);
    Checks.same("UP", x.session(0, 0), 3);
    Checks.same("one of the next message", x.session(0, 6), 1);
    x.feed(0, -1L << 8 | 4, 1);
    Checks.same("KEEPALIVE", x.session(0, 6), 0);
    Checks.same("eight bytes with the highest bit", x.feed(0, 0xFF00000000000000L, 8), true);
    Checks.row("size 255", Checks.sent(x, 0), 6, 1, 4, 100, 9, 7, 2, 4, 4, 3, 1, 2);
    Checks.same("the rest is lost", x.session(0, 6), 0);
  }

  private static void severalMessagesInOneCall() {
    RouteSpeaker x = new RouteSpeaker();
    x.start(0);
    Checks.same("OPEN and KEEPALIVE", x.feed(0, 0x060104C809140204L, 8), true);
    Checks.same("UP", x.session(0, 0), 3);
    Checks.same("KEEPALIVEs and a wrong type", x.feed(0, 0x0204020402090204L, 8), true);
    Checks.row("END 1, 3 alone", Checks.sent(x, 0), 6, 1, 4, 100, 9, 7, 2, 4, 4, 3, 1, 3);
    Checks.same("what comes behind is lost", x.session(0, 6), 0);
    Checks.same("idle before", x.feed(0, 0x0204L, 2), false);
  }

  private static void taking() {
    RouteSpeaker x = new RouteSpeaker();
    x.start(1);
    Checks.same("six bytes", x.session(1, 5), 6);
    Checks.same("the first", x.take(1), 6);
    Checks.same("five are left", x.session(1, 5), 5);
    x.stop(1);
    Checks.same("kept behind the session", x.session(1, 5), 9);
    x.start(1);
    Checks.row("in the order in which they were sent", Checks.sent(x, 1),
        1, 4, 100, 9, 7, 4, 3, 6, 2, 6, 1, 4, 100, 9, 7);
    Checks.fails("none left", Checks.NO_ELEMENT, () -> x.take(1));
    Checks.fails("none for another", Checks.NO_ELEMENT, () -> x.take(0));
  }

  private static void sentTimesOut() {
    RouteSpeaker x = new RouteSpeaker();
    x.start(0);
    for (int k = 7; k >= 1; k--) {
      Checks.same("none up", x.tick(), 0);
      Checks.same("hold timer", x.session(0, 1), k);
    }
    x.tick();
    Checks.same("idle", x.session(0, 0), 0);
    Checks.same("no hold timer", x.session(0, 1), 0);
    Checks.row("END 4, 0", Checks.sent(x, 0), Checks.join(OPEN_SENT, Checks.ints(4, 3, 4, 0)));
  }

  private static void agreedTimesOut() {
    RouteSpeaker x = new RouteSpeaker();
    Checks.agree(x, 0, 200, 3, 20);
    x.tick();
    x.tick();
    Checks.same("one is left", x.session(0, 1), 1);
    Checks.same("still AGREED", x.session(0, 0), 2);
    x.tick();
    Checks.row("END 4, 0 and no KEEPALIVE", Checks.sent(x, 0), 6, 1, 4, 100, 9, 7, 2, 4, 4, 3, 4, 0);
    Checks.same("idle", x.session(0, 0), 0);
  }

  private static void upTimesOut() {
    RouteSpeaker x = Checks.allUp();
    Checks.announce(x, 0, Checks.plain(0), 8, 9);
    Checks.sent(x, 1);
    for (int k = 8; k >= 1; k--) {
      Checks.same("all up", x.tick(), 4);
      Checks.same("hold timer", x.session(0, 1), k);
      for (int p = 1; p < 4; p++) {
        Checks.feed(x, p, 2, 4);
        Checks.sent(x, p);
      }
    }
    Checks.sent(x, 0);
    Checks.same("three up", x.tick(), 3);
    Checks.row("END 4, 0 and no KEEPALIVE", Checks.sent(x, 0), 4, 3, 4, 0);
    Checks.row("withdrawn behind the KEEPALIVE", Checks.sent(x, 1), 2, 4, 6, 2, 1, 8, 9, 0);
    Checks.same("KEEPALIVE began the hold timer again", x.session(1, 1), 8);
    Checks.feed(x, 1, 4, 2, 0, 0);
    Checks.same("UPDATE, too", x.session(1, 1), 9);
    Checks.same("but not the keep timer", x.session(1, 2), 3);
    x.tick();
    Checks.feed(x, 1, 2, 4);
    Checks.same("nor does KEEPALIVE", x.session(1, 2), 2);
  }

  private static void keepalives() {
    RouteSpeaker x = new RouteSpeaker();
    Checks.agree(x, 0, 200, 6, 20);
    Checks.feed(x, 0, 2, 4);
    Checks.sent(x, 0);
    int[] timers = {1, 2, 1, 2, 1};
    for (int i = 0; i < 5; i++) {
      Checks.same("up", x.tick(), 1);
      Checks.same("keep timer", x.session(0, 2), timers[i]);
      Checks.row("KEEPALIVE at 0", Checks.sent(x, 0), i % 2 == 1 ? Checks.ints(2, 4) : Checks.NOTHING);
    }
    x.tick();
    Checks.row("the hold timer goes first", Checks.sent(x, 0), 4, 3, 4, 0);
    RouteSpeaker y = new RouteSpeaker();
    Checks.agree(y, 0, 200, 5, 20);
    Checks.feed(y, 0, 2, 4);
    Checks.sent(y, 0);
    y.tick();
    y.tick();
    Checks.row("a third, rounded down, is 1", Checks.sent(y, 0), 2, 4, 2, 4);
    Checks.same("it began again", y.session(0, 2), 1);
  }

  private static void withoutHold() {
    RouteSpeaker x = new RouteSpeaker();
    Checks.agree(x, 0, 200, 0, 20);
    for (int k = 0; k < 12; k++) {
      x.tick();
    }
    Checks.same("AGREED without a timer", x.session(0, 0), 2);
    Checks.feed(x, 0, 2, 4);
    Checks.sent(x, 0);
    for (int k = 0; k < 12; k++) {
      Checks.same("UP without a timer", x.tick(), 1);
    }
    Checks.feed(x, 0, 2, 4);
    for (int what = 1; what <= 3; what++) {
      Checks.same("session(0, " + what + ")", x.session(0, what), 0);
    }
    Checks.row("no KEEPALIVE", Checks.sent(x, 0));
  }

  private static void ticksInOrder() {
    RouteSpeaker x = new RouteSpeaker();
    Checks.same("none up", x.tick(), 0);
    x.start(0);
    Checks.agree(x, 1, 201, 9, 21);
    Checks.up(x, 2, 202, 22);
    Checks.up(x, 3, 203, 23);
    Checks.same("two up", x.tick(), 2);
    Checks.same("SENT", x.session(0, 1), 7);
    Checks.same("AGREED", x.session(1, 1), 8);
    Checks.same("UP", x.session(2, 1), 8);
  }

  private static void sessionNumbers() {
    RouteSpeaker x = Checks.allUp();
    int[] dues = {3, 9, 3, 9, 22, 0, 0};
    for (int what = 0; what < 7; what++) {
      Checks.same("session(2, " + what + ")", x.session(2, what), dues[what]);
    }
    for (int what : new int[] {-1, 7, 8, Integer.MAX_VALUE, Integer.MIN_VALUE}) {
      Checks.same("session(2, " + what + ")", x.session(2, what), -1);
    }
  }
}
