/** Promises 1 to 5: a new object, peer, rule, unrule, outbound. */
final class SettingTest {
  public static void main(String[] args) {
    newObject();
    peerRoles();
    peerWrong();
    peerKeepsTheRest();
    ruleOrder();
    ruleWrong();
    unruleAll();
    outboundPadding();
    outboundMute();
    outboundWrong();
    Checks.finish();
  }

  private static void newObject() {
    RouteSpeaker x = new RouteSpeaker();
    for (int p = 0; p < 4; p++) {
      for (int what = 0; what <= 6; what++) {
        Checks.same("new session(" + p + ", " + what + ")", x.session(p, what), 0);
      }
      int peer = p;
      Checks.fails("new take", Checks.NO_ELEMENT, () -> x.take(peer));
      Checks.fails("new flaw", Checks.NO_ELEMENT, () -> x.flaw(peer, 0, 0));
      Checks.same("new penalty", x.penalty(p, 0, 0), 0.0);
      Checks.same("new tick", x.tick(), 0);
    }
    Checks.same("new known", x.known(), 0);
    Checks.fails("new best", Checks.NO_ELEMENT, () -> x.best(0, 0, 0));
    Checks.fails("new forward", Checks.NO_ELEMENT, () -> x.forward(0));
    Checks.same("new retract", x.retract(0, 0), false);
    // The networks are 200 + the number, the roles external, and there are no rules.
    for (int p = 0; p < 4; p++) {
      Checks.up(x, p, 200 + p, 50);
      Checks.same("up with the first network", x.session(p, 0), 3);
      Checks.announce(x, p, Checks.plain(p), 8, p);
      Checks.same("accepted without a rule", x.best(8, p, 1), 100);
    }
  }

  private static void peerRoles() {
    for (int role = 0; role <= 2; role++) {
      RouteSpeaker x = new RouteSpeaker();
      x.peer(1, role, 60);
      int network = role == 0 ? 60 : 100;
      Checks.agree(x, 1, role == 0 ? 100 : 60, 9, 50);
      Checks.row("role " + role + ": another network", Checks.sent(x, 1), 6, 1, 4, 100, 9, 7, 4, 3, 2, 2);
      Checks.up(x, 1, network, 50);
      Checks.same("role " + role + ": its network", x.session(1, 0), 3);
    }
    RouteSpeaker x = new RouteSpeaker();
    x.peer(0, 1, -5);
    x.peer(1, 2, 100);
    x.peer(2, 0, 1);
    x.peer(3, 0, 250);
    Checks.up(x, 0, 100, 50);
    Checks.up(x, 1, 100, 51);
    Checks.up(x, 2, 1, 52);
    Checks.up(x, 3, 250, 53);
    Checks.same("all up", x.tick(), 4);
  }

  private static void peerWrong() {
    RouteSpeaker x = new RouteSpeaker();
    Checks.fails("peer -1", Checks.ILLEGAL_ARGUMENT, () -> peer(x, -1, 1, 1));
    Checks.fails("peer 4", Checks.ILLEGAL_ARGUMENT, () -> peer(x, 4, 1, 1));
    Checks.fails("role -1", Checks.ILLEGAL_ARGUMENT, () -> peer(x, 0, -1, 1));
    Checks.fails("role 3", Checks.ILLEGAL_ARGUMENT, () -> peer(x, 0, 3, 1));
    for (int network : new int[] {-1, 0, 100, 251, Integer.MAX_VALUE}) {
      Checks.fails("network " + network, Checks.ILLEGAL_ARGUMENT, () -> peer(x, 0, 0, network));
    }
    x.start(0);
    Checks.fails("not idle", Checks.ILLEGAL_STATE, () -> peer(x, 0, 0, 5));
    Checks.fails("not idle, internal", Checks.ILLEGAL_STATE, () -> peer(x, 0, 2, 5));
    Checks.fails("not idle and wrong", Checks.ILLEGAL_ARGUMENT, () -> peer(x, 0, 0, 100));
    Checks.feed(x, 0, 6, 1, 4, 200, 9, 50);
    Checks.same("nothing was changed", x.session(0, 0), 2);
  }

  private static boolean peer(RouteSpeaker x, int p, int role, int network) {
    x.peer(p, role, network);
    return true;
  }

  private static void peerKeepsTheRest() {
    RouteSpeaker x = Checks.allUp();
    x.rule(0, 0, 0, 33);
    x.outbound(0, 2, 8, 1);
    Checks.announce(x, 0, Checks.plain(0), 8, 9);
    Checks.withdraw(x, 0, 8, 9);
    x.stop(0);
    Checks.sent(x, 0);
    x.peer(0, 0, 44);
    Checks.same("the penalty stays", x.penalty(0, 8, 9), 1000.0);
    Checks.up(x, 0, 44, 50);
    Checks.sent(x, 0);
    Checks.announce(x, 0, Checks.outer(0, Checks.path(44), 9), 8, 9);
    Checks.same("the rule stays", x.best(8, 9, 1), 33);
    x.originate(8, 1);
    Checks.row("mute stays", Checks.sent(x, 0));
    x.originate(8, 2);
    Checks.row("the padding stays", Checks.sent(x, 0),
        17, 2, 0, 11, 1, 1, 0, 2, 3, 100, 100, 100, 3, 1, 7, 8, 2);
  }

  private static void ruleOrder() {
    RouteSpeaker x = Checks.allUp();
    Checks.announce(x, 0, Checks.plain(0), 0, 0, 4, 160, 8, 165);
    x.rule(0, 8, 165, 11);
    x.rule(0, 4, 160, 0);
    x.rule(0, 0, 0, 200);
    Checks.same("the first rule that counts", x.best(8, 165, 1), 11);
    Checks.fails("rejected by the second", Checks.NO_ELEMENT, () -> x.best(4, 160, 0));
    Checks.same("flaw of the rejected", x.flaw(0, 4, 160), 4);
    Checks.same("the third for the rest", x.best(0, 0, 1), 200);
    Checks.row("a rule counts at once", Checks.sent(x, 1),
        16, 2, 0, 10, 1, 1, 0, 2, 2, 100, 200, 3, 1, 7, 0, 0,
        16, 2, 0, 10, 1, 1, 0, 2, 2, 100, 200, 3, 1, 7, 4, 160,
        16, 2, 0, 10, 1, 1, 0, 2, 2, 100, 200, 3, 1, 7, 8, 165,
        6, 2, 1, 4, 160, 0);
    x.unrule(0);
    x.rule(0, 8, 160, 50);
    Checks.same("a longer rule does not count", x.best(4, 160, 1), 100);
    x.rule(0, 3, 160, 51);
    Checks.same("a shorter one does", x.best(4, 160, 1), 51);
    Checks.same("and not for others", x.best(0, 0, 1), 100);
    Checks.announce(x, 1, Checks.plain(1), 0, 0);
    x.rule(1, 0, 0, 100);
    Checks.same("a rule of another peer", x.best(4, 160, 1), 51);
  }

  private static void ruleWrong() {
    RouteSpeaker x = new RouteSpeaker();
    int[][] wrongs = {{-1, 0, 0, 1}, {4, 0, 0, 1}, {0, -1, 0, 1}, {0, 9, 0, 1}, {0, 0, 1, 1}, {0, 4, 8, 1},
        {0, 8, 256, 1}, {0, 8, -1, 1}, {0, 1, 64, 1}, {0, 0, 0, -1}, {0, 0, 0, 201}};
    for (int[] w : wrongs) {
      Checks.fails("rule " + java.util.Arrays.toString(w), Checks.ILLEGAL_ARGUMENT, () -> rule(x, w));
    }
    x.rule(0, 8, 255, 0);
    x.rule(0, 1, 128, 200);
    x.rule(0, 0, 0, 1);
    Checks.fails("a fourth rule", Checks.ILLEGAL_STATE, () -> rule(x, 0, 0, 0, 1));
    Checks.fails("a fourth rule that is wrong", Checks.ILLEGAL_ARGUMENT, () -> rule(x, 0, 0, 0, 201));
    Checks.same("another peer has none", rule(x, 1, 0, 0, 1), true);
  }

  private static boolean rule(RouteSpeaker x, int... w) {
    x.rule(w[0], w[1], w[2], w[3]);
    return true;
  }

  private static void unruleAll() {
    RouteSpeaker x = Checks.allUp();
    for (int k = 0; k < 3; k++) {
      x.rule(2, 0, 0, 0);
    }
    Checks.announce(x, 2, Checks.plain(2), 8, 9);
    Checks.row("rejected is not told", Checks.sent(x, 0));
    x.unrule(2);
    Checks.row("told at once", Checks.sent(x, 0), 16, 2, 0, 10, 1, 1, 0, 2, 2, 100, 202, 3, 1, 7, 8, 9);
    Checks.same("no rules", x.flaw(2, 8, 9), 0);
    Checks.same("room for three", rule(x, 2, 0, 0, 7) && rule(x, 2, 0, 0, 8) && rule(x, 2, 0, 0, 9), true);
    Checks.same("preference", x.best(8, 9, 1), 7);
    for (int p : new int[] {-1, 4}) {
      Checks.fails("unrule " + p, Checks.ILLEGAL_ARGUMENT, () -> {
        x.unrule(p);
        return true;
      });
    }
  }

  private static void outboundPadding() {
    RouteSpeaker x = Checks.allUp(0, 0, 1, 0);
    x.originate(8, 9);
    for (int padding = 1; padding <= 3; padding++) {
      Checks.sent(x, 0);
      x.outbound(0, padding, -1, 77);
      int[] path = new int[padding + 1];
      java.util.Arrays.fill(path, 100);
      Checks.row("padding " + padding, Checks.sent(x, 0), Checks.update(Checks.NOTHING,
          Checks.outer(0, Checks.path(path), 7), 8, 9));
    }
    x.outbound(0, 3, -1, 0);
    Checks.row("the same again", Checks.sent(x, 0));
    Checks.sent(x, 2);
    x.outbound(2, 3, -1, 0);
    Checks.row("no padding for an internal peer", Checks.sent(x, 2));
    x.outbound(0, 0, 8, 8);
    Checks.row("padding 0 again", Checks.sent(x, 0),
        15, 2, 0, 9, 1, 1, 0, 2, 1, 100, 3, 1, 7, 8, 9);
  }

  private static void outboundMute() {
    RouteSpeaker x = Checks.allUp();
    x.originate(4, 160);
    x.originate(8, 165);
    x.originate(3, 160);
    Checks.sent(x, 0);
    x.outbound(0, 0, 4, 160);
    Checks.row("mute for it and within it", Checks.sent(x, 0), 6, 2, 1, 4, 160, 0, 6, 2, 1, 8, 165, 0);
    x.outbound(0, 0, 8, 165);
    Checks.row("mute for another one instead", Checks.sent(x, 0),
        15, 2, 0, 9, 1, 1, 0, 2, 1, 100, 3, 1, 7, 4, 160);
    x.outbound(0, 0, 0, 0);
    Checks.row("mute for all", Checks.sent(x, 0), 6, 2, 1, 4, 160, 0, 6, 2, 1, 3, 160, 0);
    x.outbound(0, 1, -1, 0);
    Checks.same("mute for nothing", Checks.sent(x, 0).length, 48);
  }

  private static void outboundWrong() {
    RouteSpeaker x = Checks.allUp();
    int[][] wrongs = {{-1, 0, 0, 0}, {4, 0, -1, 0}, {0, -1, -1, 0}, {0, 4, -1, 0}, {0, 0, -2, 0}, {0, 0, 9, 0},
        {0, 0, 0, 1}, {0, 0, 7, 1}, {0, 0, 8, 256}, {0, 0, 8, -1}};
    for (int[] w : wrongs) {
      Checks.fails("outbound " + java.util.Arrays.toString(w), Checks.ILLEGAL_ARGUMENT, () -> {
        x.outbound(w[0], w[1], w[2], w[3]);
        return true;
      });
    }
    x.originate(0, 0);
    Checks.row("nothing was changed", Checks.sent(x, 0), 15, 2, 0, 9, 1, 1, 0, 2, 1, 100, 3, 1, 7, 0, 0);
  }
}
