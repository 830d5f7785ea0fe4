/** Promises 6, 7 and 18: originate, retract, known. */
final class OwnPrefixTest {
  public static void main(String[] args) {
    originateAndRetract();
    wrongPrefixes();
    twelveOriginated();
    twelveAnnounced();
    orderOfTheKnown();
    Checks.finish();
  }

  private static void originateAndRetract() {
    RouteSpeaker x = Checks.allUp(0, 1, 2, 0);
    Checks.same("originate", x.originate(8, 9), true);
    Checks.same("originate again", x.originate(8, 9), false);
    Checks.same("known", x.known(), 1);
    int[] dues = {4, 100, 0, 0, 7, -1, 0, 0, 0, 0, 0, 0, 0, 0, 0, 0, 0, 0, 0, 0, 0, 0};
    for (int what = 0; what <= 21; what++) {
      Checks.same("the own route's " + what, x.best(8, 9, what), dues[what]);
    }
    Checks.row("told to an external", Checks.sent(x, 0), 15, 2, 0, 9, 1, 1, 0, 2, 1, 100, 3, 1, 7, 8, 9);
    Checks.row("told to a client", Checks.sent(x, 1), 17, 2, 0, 11, 1, 1, 0, 2, 0, 3, 1, 7, 5, 1, 100, 8, 9);
    Checks.row("told to a fellow", Checks.sent(x, 2), 17, 2, 0, 11, 1, 1, 0, 2, 0, 3, 1, 7, 5, 1, 100, 8, 9);
    Checks.fails("no route of a peer", Checks.NO_ELEMENT, () -> x.flaw(0, 8, 9));
    Checks.same("retract", x.retract(8, 9), true);
    Checks.same("retract again", x.retract(8, 9), false);
    Checks.same("never forgotten", x.known(), 1);
    Checks.fails("no route", Checks.NO_ELEMENT, () -> x.best(8, 9, 0));
    Checks.row("withdrawn", Checks.sent(x, 0), 6, 2, 1, 8, 9, 0);
    Checks.same("originate once more", x.originate(8, 9), true);
    Checks.same("known once", x.known(), 1);
    Checks.same("retract an unknown one", x.retract(8, 10), false);
    Checks.same("that stays unknown", x.known(), 1);
  }

  private static void wrongPrefixes() {
    RouteSpeaker x = new RouteSpeaker();
    int[][] wrongs = {{-1, 0}, {9, 0}, {0, 1}, {0, 128}, {1, 64}, {4, 8}, {7, 1}, {8, 256}, {8, -1}, {-1, -1},
        {Integer.MIN_VALUE, 0}, {40, 0}, {8, Integer.MAX_VALUE}};
    for (int[] w : wrongs) {
      String name = w[0] + ", " + w[1];
      Checks.fails("originate " + name, Checks.ILLEGAL_ARGUMENT, () -> x.originate(w[0], w[1]));
      Checks.fails("retract " + name, Checks.ILLEGAL_ARGUMENT, () -> x.retract(w[0], w[1]));
    }
    Checks.same("nothing known", x.known(), 0);
    for (int length = 0; length <= 8; length++) {
      Checks.same("length " + length, x.originate(length, 255 & (0xFF00 >> length)), true);
    }
  }

  private static void twelveOriginated() {
    RouteSpeaker x = new RouteSpeaker();
    for (int i = 0; i < 12; i++) {
      Checks.same("originate " + i, x.originate(8, i), true);
      Checks.same("known " + i, x.known(), i + 1);
    }
    Checks.fails("a thirteenth", Checks.ILLEGAL_STATE, () -> x.originate(8, 12));
    Checks.fails("a thirteenth that is none", Checks.ILLEGAL_ARGUMENT, () -> x.originate(7, 1));
    Checks.same("one of the twelve", x.originate(8, 11), false);
    Checks.same("retract one", x.retract(8, 11), true);
    Checks.fails("no room by that", Checks.ILLEGAL_STATE, () -> x.originate(8, 12));
    Checks.same("the retracted one", x.originate(8, 11), true);
    Checks.same("still twelve", x.known(), 12);
  }

  private static void twelveAnnounced() {
    RouteSpeaker x = Checks.allUp();
    for (int i = 0; i < 10; i++) {
      x.originate(8, i);
    }
    Checks.withdraw(x, 0, 8, 50, 8, 51, 8, 52);
    Checks.same("withdrawing makes none known", x.known(), 10);
    Checks.sent(x, 0);
    Checks.announce(x, 0, Checks.plain(0), 8, 0, 8, 60, 8, 60, 8, 61, 8, 0);
    Checks.same("two more", x.known(), 12);
    Checks.same("the session goes on", x.session(0, 0), 3);
    Checks.announce(x, 1, Checks.plain(1), 8, 0, 8, 9, 8, 60, 8, 61, 8, 0);
    Checks.same("all of these are known", x.session(1, 0), 3);
    Checks.same("and there", x.flaw(1, 8, 9), 0);
    Checks.announce(x, 0, Checks.plain(0), 8, 1, 8, 62);
    Checks.row("END 6, 1", Checks.sent(x, 0), 4, 3, 6, 1);
    Checks.same("ended", x.session(0, 0), 0);
    Checks.same("still twelve", x.known(), 12);
    RouteSpeaker y = Checks.allUp();
    for (int i = 0; i < 11; i++) {
      y.originate(8, i);
    }
    Checks.sent(y, 0);
    Checks.announce(y, 0, Checks.plain(0), 8, 60, 8, 61);
    Checks.row("END 6, 1 at once", Checks.sent(y, 0), 4, 3, 6, 1);
    Checks.same("none of them", y.known(), 11);
    Checks.announce(y, 1, Checks.plain(1), 8, 62, 8, 62, 8, 62);
    Checks.same("one, announced three times", y.known(), 12);
    Checks.same("is not too many", y.session(1, 0), 3);
  }

  private static void orderOfTheKnown() {
    RouteSpeaker x = Checks.allUp();
    x.originate(8, 9);
    x.retract(8, 9);
    Checks.announce(x, 1, Checks.plain(1), 8, 3, 8, 2);
    x.originate(8, 9);
    Checks.sent(x, 0);
    Checks.up(x, 0, 200, 20);
    x.stop(0);
    Checks.sent(x, 0);
    Checks.up(x, 0, 200, 20);
    Checks.row("told by the order in which they were first", Checks.sent(x, 0),
        6, 1, 4, 100, 9, 7, 2, 4,
        15, 2, 0, 9, 1, 1, 0, 2, 1, 100, 3, 1, 7, 8, 9,
        16, 2, 0, 10, 1, 1, 0, 2, 2, 100, 201, 3, 1, 7, 8, 3,
        16, 2, 0, 10, 1, 1, 0, 2, 2, 100, 201, 3, 1, 7, 8, 2);
  }
}
