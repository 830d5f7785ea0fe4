/** The sentences about who there is and what numbers and prefixes there are. */
final class EdgeNumbers {
  private static final int[] NOT_PEERS = {-1, 4, Integer.MIN_VALUE, Integer.MAX_VALUE};

  private EdgeNumbers() {}

  static void run() {
    Sentences.holds("A speaker that exchanges routes with up to four peers", EdgeNumbers::fourPeers);
    Sentences.holds("An object is used for at most 512 calls after it has been made", EdgeNumbers::lastOfTheCalls);
    Sentences.holds("public static final int NONE = -1;", () -> Checks.same("NONE", RouteSpeaker.NONE, -1));
    Sentences.holds("NUMBERS of networks, speakers and addresses of next hops are 1 .. 250.", EdgeNumbers::numbers);
    Sentences.holds("The speaker has its own NETWORK, 100, and its own ID, 7.", EdgeNumbers::ownNumbers);
    Sentences.holds("PEERS are 0 .. 3.", EdgeNumbers::noSuchPeers);
    Sentences.holds("A peer has a ROLE, 0 EXTERNAL, 1 CLIENT, 2 FELLOW, at first 0, and a NETWORK, "
        + "at first 200 + its number;", EdgeNumbers::rolesAtFirst);
    Sentences.holds("for a CLIENT or FELLOW (these are INTERNAL) it is 100.", EdgeNumbers::internalNetwork);
    Sentences.holds("PREFIXES have a LENGTH 0 .. 8 and an ADDRESS, "
        + "a byte of which only so many of the highest bits may be set.", EdgeNumbers::allPrefixes);
    Sentences.holds("A prefix is WITHIN another one if its length is at least that one's and it has the same highest "
        + "bits, as many as that one's length.", EdgeNumbers::within);
    Sentences.holds("The speaker KNOWS at most 12 prefixes, those that were announced to it or that it originated,",
        EdgeNumbers::atMostTwelve);
    Sentences.holds("in the order in which that was first", EdgeNumbers::orderOfTheKnown);
    Sentences.holds("(withdrawing alone makes none known)", EdgeNumbers::withdrawnOnly);
    Sentences.holds("it never forgets one.", EdgeNumbers::neverForgotten);
  }

  private static void fourPeers() {
    for (int from = 0; from < 4; from++) {
      RouteSpeaker x = Checks.allUp();
      Checks.announce(x, from, Checks.plain(from), 8, 9);
      for (int to = 0; to < 4; to++) {
        Checks.row(from + " to " + to, Checks.sent(x, to),
            to == from ? Checks.NOTHING : Checks.toldOut(Checks.ints(200 + from), 8, 9));
      }
    }
  }

  private static void lastOfTheCalls() {
    RouteSpeaker x = new RouteSpeaker();
    x.start(0);
    x.feed(0, 0x060104C80014L, 6);
    x.feed(0, 0x0204L, 2);
    for (int k = 4; k <= 510; k++) {
      x.tick();
    }
    Checks.same("call 511", x.originate(0, 0), true);
    Checks.same("call 512", x.session(0, 5), 6 + 2 + 15);
  }

  private static void numbers() {
    for (int number : new int[] {0, 1, 250, 251, 255}) {
      boolean good = number == 1 || number == 250;
      RouteSpeaker x = new RouteSpeaker();
      Checks.same("network " + number, Checks.outcome(() -> Checks.done(() -> x.peer(0, 0, number))),
          good ? "done" : "IllegalArgumentException");
      Checks.agree(x, 1, 201, 9, number);
      Checks.same("speaker " + number, x.session(1, 4), good ? number : 0);
      Checks.up(x, 2, 202, 22);
      Checks.announce(x, 2, Checks.outer(0, Checks.path(202, 202), number), 8, 9);
      Checks.same("next hop " + number, Checks.outcome(() -> x.best(8, 9, 4)),
          good ? "" + number : "NoSuchElementException");
      Checks.up(x, 3, 203, 23);
      Checks.announce(x, 3, Checks.outer(0, Checks.path(203, number), 30), 8, 8);
      Checks.same("network " + number + " of a PATH", Checks.outcome(() -> x.best(8, 8, 9)),
          good ? "" + number : "NoSuchElementException");
    }
  }

  private static void ownNumbers() {
    RouteSpeaker x = Checks.allUp(1, 1, 0, 0);
    x.stop(3);
    Checks.sent(x, 3);
    x.start(3);
    Checks.row("OPEN", Checks.sent(x, 3), 6, 1, 4, 100, 9, 7);
    Checks.announce(x, 0, Checks.inner(0, Checks.path(99, 101), 6, 50), 8, 9);
    Checks.row("to a client", Checks.sent(x, 1),
        Checks.told(Checks.join(Checks.inner(0, Checks.path(99, 101), 6, 50), Checks.ints(9, 1, 20, 10, 1, 7)), 8, 9));
    Checks.row("to an external one", Checks.sent(x, 2), Checks.toldOut(Checks.ints(99, 101), 8, 9));
    x.originate(8, 8);
    Checks.same("the own NEXT", x.best(8, 8, 4), 7);
    for (int network : new int[] {99, 101}) {
      RouteSpeaker y = new RouteSpeaker();
      y.peer(0, 0, network);
      Checks.agree(y, 0, network, 9, 7);
      Checks.same("the ID 7 is not another's", y.session(0, 0), 0);
      Checks.agree(y, 0, network, 9, network == 99 ? 6 : 8);
      Checks.same("6, 8, 99 and 101 are others'", y.session(0, 0), 2);
    }
  }

  private static void noSuchPeers() {
    RouteSpeaker x = Checks.allUp();
    for (int p : NOT_PEERS) {
      Checks.refused("peer " + p, Checks.ILLEGAL_ARGUMENT, () -> x.peer(p, 0, 1));
      Checks.refused("rule " + p, Checks.ILLEGAL_ARGUMENT, () -> x.rule(p, 0, 0, 0));
      Checks.refused("unrule " + p, Checks.ILLEGAL_ARGUMENT, () -> x.unrule(p));
      Checks.refused("outbound " + p, Checks.ILLEGAL_ARGUMENT, () -> x.outbound(p, 0, -1, 0));
      Checks.refused("start " + p, Checks.ILLEGAL_ARGUMENT, () -> x.start(p));
      Checks.refused("stop " + p, Checks.ILLEGAL_ARGUMENT, () -> x.stop(p));
      Checks.refused("feed " + p, Checks.ILLEGAL_ARGUMENT, () -> x.feed(p, 0, 1));
      Checks.refused("take " + p, Checks.ILLEGAL_ARGUMENT, () -> x.take(p));
      Checks.refused("flaw " + p, Checks.ILLEGAL_ARGUMENT, () -> x.flaw(p, 0, 0));
      Checks.refused("penalty " + p, Checks.ILLEGAL_ARGUMENT, () -> x.penalty(p, 0, 0));
      Checks.same("session " + p, x.session(p, 0), -1);
    }
    for (int p : new int[] {0, 3}) {
      Checks.same("stop " + p, x.stop(p), true);
      x.peer(p, 0, 33);
      x.rule(p, 0, 0, 0);
      x.unrule(p);
      x.outbound(p, 0, -1, 0);
      Checks.same("start " + p, x.start(p), true);
      Checks.same("feed " + p, x.feed(p, 0, 1), true);
      Checks.same("take " + p, x.take(p), 4);
      Checks.same("penalty " + p, x.penalty(p, 0, 0), 0.0);
      Checks.refused("flaw " + p, Checks.NO_ELEMENT, () -> x.flaw(p, 0, 0));
    }
  }

  private static void rolesAtFirst() {
    for (int p = 0; p < 4; p++) {
      for (int network = 199 + p; network <= 201 + p; network++) {
        RouteSpeaker x = new RouteSpeaker();
        Checks.agree(x, p, network, 9, 20);
        Checks.same("peer " + p + " of network " + network, x.session(p, 0), network == 200 + p ? 2 : 0);
      }
      RouteSpeaker x = new RouteSpeaker();
      Checks.up(x, p, 200 + p, 20);
      Checks.announce(x, p, Checks.plain(p), 8, 9);
      Checks.same("external: no PREFERENCE is needed", x.session(p, 0), 3);
      for (int role : new int[] {-1, 3}) {
        Checks.refused("role " + role, Checks.ILLEGAL_ARGUMENT, () -> x.peer(1, role, 5));
      }
    }
  }

  private static void internalNetwork() {
    for (int role = 1; role <= 2; role++) {
      for (int network = 99; network <= 101; network++) {
        RouteSpeaker x = new RouteSpeaker();
        x.peer(2, role, 202);
        Checks.agree(x, 2, network, 9, 20);
        Checks.same("role " + role + " of network " + network, x.session(2, 0), network == 100 ? 2 : 0);
      }
    }
  }

  /** Whether the bits behind the highest ones are all 0, by the bits' text. */
  private static boolean isPrefix(int length, int address) {
    if (length < 0 || length > 8 || address < 0 || address > 255) {
      return false;
    }
    String bits = Integer.toBinaryString(256 + address).substring(1);
    return bits.substring(length).indexOf('1') < 0;
  }

  private static void allPrefixes() {
    for (int length = -2; length <= 10; length++) {
      RouteSpeaker x = new RouteSpeaker();
      for (int address = -1; address <= 257; address++) {
        int l = length;
        int a = address;
        Checks.same("prefix " + l + ", " + a, Checks.outcome(() -> x.penalty(0, l, a)),
            isPrefix(l, a) ? "0.0" : "IllegalArgumentException");
      }
      Checks.refused("a far address", Checks.ILLEGAL_ARGUMENT, () -> x.penalty(0, 8, Integer.MIN_VALUE));
      Checks.refused("a far length", Checks.ILLEGAL_ARGUMENT, () -> x.penalty(0, Integer.MAX_VALUE, 0));
    }
  }

  private static int highest(int bits, int length) {
    return bits >> (8 - length) << (8 - length);
  }

  /** All prefixes of some bits, by their lengths, against a rule for a prefix of other bits. */
  private static void within(int inner, int outer, int outerLength, int firstWithin) {
    RouteSpeaker x = new RouteSpeaker();
    Checks.up(x, 0, 200, 20);
    int[] prefixes = new int[18];
    for (int length = 0; length <= 8; length++) {
      prefixes[2 * length] = length;
      prefixes[2 * length + 1] = highest(inner, length);
    }
    Checks.announce(x, 0, Checks.plain(0), prefixes);
    x.rule(0, outerLength, highest(outer, outerLength), 0);
    for (int length = 0; length <= 8; length++) {
      Checks.same(length + " of " + inner + " within " + outerLength + " of " + outer,
          x.flaw(0, length, highest(inner, length)), length >= firstWithin ? 4 : 0);
    }
  }

  private static void within() {
    int bits = 0xA5;
    for (int length = 0; length <= 8; length++) {
      within(bits, bits, length, length);
      if (length > 0) {
        within(bits ^ 1 << (8 - length), bits, length, 9);
        within(bits ^ 0x80, bits, length, 9);
      }
      if (length < 8) {
        within(bits ^ 0x80 >> length, bits, length, length);
      }
    }
  }

  /** All sessions are up, and so many prefixes originated of which nobody is told. */
  private static RouteSpeaker originated(int count) {
    RouteSpeaker x = Checks.allUp();
    for (int p = 0; p < 4; p++) {
      x.outbound(p, 0, 0, 0);
    }
    for (int i = 0; i < count; i++) {
      x.originate(8, i);
    }
    return x;
  }

  private static int[] rowOfPrefixes(int count) {
    int[] row = new int[2 * count];
    for (int i = 0; i < count; i++) {
      row[2 * i] = 8;
      row[2 * i + 1] = 100 + i;
    }
    return row;
  }

  private static void atMostTwelve() {
    RouteSpeaker x = new RouteSpeaker();
    for (int i = 0; i < 12; i++) {
      Checks.same("originate " + i, x.originate(8, i), true);
      Checks.same("known", x.known(), i + 1);
    }
    Checks.refused("a 13th", Checks.ILLEGAL_STATE, () -> x.originate(8, 12));
    RouteSpeaker y = originated(11);
    Checks.announce(y, 0, Checks.plain(0), 8, 100);
    Checks.same("a 12th that is announced", y.known() * 10 + y.session(0, 0), 123);
    Checks.announce(y, 0, Checks.plain(0), 8, 101);
    Checks.ended("a 13th that is announced", y, 0, 6, 1);
    Checks.same("known", y.known(), 12);
    for (int count = 12; count <= 13; count++) {
      RouteSpeaker z = Checks.allUp();
      Checks.announce(z, 1, Checks.plain(1), rowOfPrefixes(count));
      Checks.same(count + " announced at once", z.known(), count == 12 ? 12 : 0);
      Checks.same(count + " announced at once: session", z.session(1, 0), count == 12 ? 3 : 0);
    }
    RouteSpeaker z = Checks.allUp();
    z.rule(0, 0, 0, 0);
    Checks.announce(z, 0, Checks.outer(0, Checks.path(200, 100), 30), 8, 1);
    Checks.same("one that is barred and rejected", z.known(), 1);
  }

  private static void orderOfTheKnown() {
    RouteSpeaker x = Checks.allUp();
    Checks.announce(x, 1, Checks.plain(1), 8, 5, 8, 4);
    x.originate(8, 3);
    Checks.announce(x, 2, Checks.plain(2), 8, 6, 8, 4, 8, 5);
    x.originate(8, 5);
    x.stop(0);
    Checks.sent(x, 0);
    Checks.up(x, 0, 200, 20);
    Checks.row("told in their order", Checks.sent(x, 0), Checks.join(Checks.ints(6, 1, 4, 100, 9, 7, 2, 4),
        Checks.toldOut(Checks.NOTHING, 8, 5), Checks.toldOut(Checks.ints(201), 8, 4),
        Checks.toldOut(Checks.NOTHING, 8, 3), Checks.toldOut(Checks.ints(202), 8, 6)));
  }

  private static void withdrawnOnly() {
    RouteSpeaker x = originated(11);
    Checks.withdraw(x, 0, 8, 50, 8, 51, 8, 52);
    Checks.same("known", x.known(), 11);
    Checks.same("UP", x.session(0, 0), 3);
    x.originate(8, 60);
    Checks.withdraw(x, 0, 8, 50);
    Checks.same("UP, though 12 are known", x.session(0, 0), 3);
    RouteSpeaker y = originated(11);
    Checks.feed(y, 0, Checks.update(Checks.ints(8, 50, 8, 51), Checks.plain(0), 8, 50));
    Checks.same("one of the withdrawn is announced, too", y.known() * 10 + y.session(0, 0), 123);
  }

  private static void neverForgotten() {
    RouteSpeaker x = originated(10);
    Checks.announce(x, 1, Checks.plain(1), 8, 50, 8, 51);
    Checks.withdraw(x, 1, 8, 50);
    Checks.same("withdrawn", x.known(), 12);
    x.stop(1);
    Checks.same("the session is over", x.known(), 12);
    for (int i = 0; i < 10; i++) {
      x.retract(8, i);
    }
    Checks.same("retracted", x.known(), 12);
    Checks.refused("no room for another", Checks.ILLEGAL_STATE, () -> x.originate(8, 60));
    x.peer(1, 1, 0);
    Checks.same("the peer is another one", x.known(), 12);
    Checks.same("those that are known can come back", x.originate(8, 50) && x.originate(8, 0), true);
    x.stop(0);
    Checks.sent(x, 0);
    x.outbound(0, 0, -1, 0);
    Checks.up(x, 0, 200, 20);
    Checks.row("at their old places", Checks.sent(x, 0), Checks.join(Checks.ints(6, 1, 4, 100, 9, 7, 2, 4),
        Checks.toldOut(Checks.NOTHING, 8, 0), Checks.toldOut(Checks.NOTHING, 8, 50)));
  }
}
