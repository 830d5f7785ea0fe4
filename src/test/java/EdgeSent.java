import java.util.ArrayDeque;
import java.util.Arrays;
import java.util.Deque;

/** The sentences about what is sent and not taken yet. */
final class EdgeSent {
  private static final int[] NONE = Checks.NOTHING;
  private static final int[] START_AND_STOP = {6, 1, 4, 100, 9, 7, 4, 3, 6, 2};

  private EdgeSent() {}

  static void run() {
    Sentences.holds("What is SENT to a peer is kept as a row of bytes till it is taken", () -> {
      emptyRow();
      firstInFirstOut();
      takenWhileSentTo();
      takenWithinAMessage();
    });
    Sentences.holds("(also behind the session);", EdgeSent::behindTheSession);
    Sentences.holds("a message with which it would have more than 200 bytes is not sent, "
        + "and the session is closed (so by start(), too, which answers true).", () -> {
      fullByOpen();
      fullByKeepaliveForOpen();
      fullByNotification();
      fullByKeepaliveOfATick();
      fullByAnnouncing();
      fullByWithdrawing();
      fullByTellingWhenUp();
      fullByTheLongest();
      fullAndTakenFrom();
      fullForOneAlone();
    });
    Sentences.holds("When a session is closed by that, all is gone over once more from the beginning.", () -> {
      fromTheBeginning();
      oneAfterTheOther();
      itsOwnMessage();
    });
  }

  /** A row of so many bytes (24 or more) that are not taken, for a peer whose session is idle. */
  static void fill(RouteSpeaker x, int p, int bytes) {
    int even = bytes + bytes % 2;
    int left = even;
    while (left % 10 != 0) {
      x.start(p);
      Checks.feed(x, p, 4, 3, 0, 0);
      left -= 6;
    }
    for (; left > 0; left -= 10) {
      x.start(p);
      x.stop(p);
    }
    if (even > bytes) {
      x.take(p);
    }
    Checks.same("filled", x.session(p, 5), bytes);
  }

  private static RouteSpeaker filled(int bytes) {
    RouteSpeaker x = new RouteSpeaker();
    fill(x, 0, bytes);
    return x;
  }

  /** Peer 0 is up, and its row has so many bytes (32 or more) with OPEN and KEEPALIVE. */
  private static RouteSpeaker upWith(int bytes) {
    RouteSpeaker x = filled(bytes - 8);
    Checks.up(x, 0, 200, 20);
    Checks.same("up", x.session(0, 0) * 1000 + x.session(0, 5), 3000 + bytes);
    return x;
  }

  private static void closed(String what, RouteSpeaker x, int bytes) {
    Checks.idle(what, x, 0);
    Checks.same(what + ": nothing more is sent", x.session(0, 5), bytes);
  }

  private static void emptyRow() {
    RouteSpeaker x = new RouteSpeaker();
    for (int p = 0; p < 4; p++) {
      int peer = p;
      Checks.same("no bytes", x.session(p, 5), 0);
      Checks.refused("nothing to take", Checks.NO_ELEMENT, () -> x.take(peer));
      x.start(p);
      Checks.row("all of it", Checks.sent(x, p), 6, 1, 4, 100, 9, 7);
      Checks.refused("nothing is left", Checks.NO_ELEMENT, () -> x.take(peer));
      Checks.same("no bytes again", x.session(p, 5), 0);
    }
  }

  private static void firstInFirstOut() {
    RouteSpeaker x = new RouteSpeaker();
    x.start(0);
    x.start(1);
    x.stop(0);
    for (int k = 0; k < 10; k++) {
      Checks.same("so many are left", x.session(0, 5), 10 - k);
      Checks.same("the first of them", x.take(0), START_AND_STOP[k]);
      Checks.same("another peer's row", x.session(1, 5), 6);
    }
  }

  private static void takenWhileSentTo() {
    RouteSpeaker x = filled(190);
    int[] got = new int[380];
    int count = 0;
    for (int turn = 0; turn < 19; turn++) {
      x.start(0);
      x.stop(0);
      Checks.same("full", x.session(0, 5), 200);
      for (int k = 0; k < 10; k++) {
        got[count] = x.take(0);
        count++;
      }
    }
    int[] rest = Checks.sent(x, 0);
    int[] all = Checks.join(Arrays.copyOf(got, count), rest);
    Checks.same("190 bytes, and 19 times 10", all.length, 380);
    for (int k = 0; k < all.length; k++) {
      Checks.same("byte " + k, all[k], START_AND_STOP[k % 10]);
    }
  }

  private static void takenWithinAMessage() {
    RouteSpeaker x = Checks.allUp();
    Deque<Integer> due = new ArrayDeque<>();
    for (int turn = 0; turn < 14; turn++) {
      x.originate(8, turn % 12);
      sendAndTake(x, due, Checks.toldOut(NONE, 8, turn % 12));
      x.retract(8, turn % 12);
      sendAndTake(x, due, Checks.untold(8, turn % 12));
    }
    Checks.same("more is sent than taken", x.session(0, 5), 14 * (15 + 6) - 28 * 7);
    while (!due.isEmpty()) {
      Checks.same("the next byte", x.take(0), due.remove());
    }
    Checks.refused("all is taken", Checks.NO_ELEMENT, () -> x.take(0));
  }

  /** Takes seven bytes of what was sent to peer 0, to which a message was sent. */
  private static void sendAndTake(RouteSpeaker x, Deque<Integer> due, int[] message) {
    for (int value : message) {
      due.add(value);
    }
    for (int k = 0; k < 7; k++) {
      Checks.same("the next byte", x.take(0), due.remove());
    }
    Checks.same("the rest of them", x.session(0, 5), due.size());
  }

  private static void behindTheSession() {
    RouteSpeaker x = new RouteSpeaker();
    x.start(0);
    x.take(0);
    x.stop(0);
    Checks.same("ended", x.session(0, 5), 9);
    x.peer(0, 1, 0);
    Checks.agree(x, 0, 100, 9, 20);
    Checks.feed(x, 0, 4, 3, 0, 0);
    Checks.row("of both sessions", Checks.sent(x, 0), 1, 4, 100, 9, 7, 4, 3, 6, 2, 6, 1, 4, 100, 9, 7, 2, 4);
    for (int k = 0; k < 20; k++) {
      x.tick();
    }
    Checks.refused("and no more", Checks.NO_ELEMENT, () -> x.take(0));
  }

  private static void fullByOpen() {
    RouteSpeaker x = filled(194);
    Checks.same("start", x.start(0), true);
    Checks.same("SENT with 200", x.session(0, 0) * 1000 + x.session(0, 5), 1200);
    for (int bytes : new int[] {195, 196, 200}) {
      RouteSpeaker y = filled(bytes);
      Checks.same("start with " + bytes, y.start(0), true);
      closed("start with " + bytes, y, bytes);
      Checks.same("start again", y.start(0), true);
      Checks.same("stop", y.stop(0), false);
      Checks.same("feed", y.feed(0, 6, 1), false);
      for (int left = bytes; left > 194; left--) {
        y.take(0);
      }
      Checks.same("start with 194", y.start(0), true);
      Checks.same("SENT", y.session(0, 0), 1);
    }
  }

  private static void fullByKeepaliveForOpen() {
    RouteSpeaker x = filled(192);
    Checks.agree(x, 0, 200, 9, 20);
    Checks.same("AGREED with 200", x.session(0, 0) * 1000 + x.session(0, 5), 2200);
    RouteSpeaker y = filled(193);
    Checks.agree(y, 0, 200, 9, 20);
    closed("199 and 2", y, 199);
  }

  private static void fullByNotification() {
    RouteSpeaker x = filled(190);
    x.start(0);
    x.stop(0);
    int[] all = Checks.sent(x, 0);
    Checks.row("the last four of 200", Arrays.copyOfRange(all, 196, all.length), 4, 3, 6, 2);
    for (int way = 0; way < 3; way++) {
      RouteSpeaker y = filled(191);
      y.start(0);
      if (way == 0) {
        Checks.same("stop", y.stop(0), true);
      } else if (way == 1) {
        Checks.same("feed", y.feed(0, 0, 1), true);
      } else {
        for (int k = 0; k < 8; k++) {
          y.tick();
        }
      }
      closed("197 and 4, way " + way, y, 197);
    }
  }

  private static void fullByKeepaliveOfATick() {
    for (int bytes = 198; bytes <= 199; bytes++) {
      RouteSpeaker x = filled(bytes - 8);
      Checks.agree(x, 0, 200, 3, 20);
      Checks.feed(x, 0, 2, 4);
      Checks.announce(x, 0, Checks.plain(0), 8, 9);
      Checks.same("how many are up, with " + bytes, x.tick(), bytes == 198 ? 1 : 0);
      Checks.same("the row", x.session(0, 5), bytes == 198 ? 200 : 199);
      Checks.same("its route", Checks.outcome(() -> x.flaw(0, 8, 9)), bytes == 198 ? "0" : "NoSuchElementException");
    }
  }

  private static void fullByAnnouncing() {
    RouteSpeaker x = upWith(185);
    Checks.same("originate", x.originate(8, 9), true);
    Checks.same("UP with 200", x.session(0, 0) * 1000 + x.session(0, 5), 3200);
    RouteSpeaker y = upWith(186);
    Checks.announce(y, 0, Checks.plain(0), 8, 8);
    Checks.feed(y, 0, 9, 2, 0);
    Checks.same("originate", y.originate(8, 9), true);
    closed("186 and 15", y, 186);
    Checks.same("it is originated", y.best(8, 9, 0), Checks.OWN);
    Checks.refused("the peer's route is gone", Checks.NO_ELEMENT, () -> y.flaw(0, 8, 8));
    Checks.same("and not withdrawn", y.penalty(0, 8, 8), 0.0);
    Checks.sent(y, 0);
    Checks.up(y, 0, 200, 20);
    Checks.row("told in the next session", Checks.sent(y, 0),
        Checks.join(Checks.ints(6, 1, 4, 100, 9, 7, 2, 4), Checks.toldOut(NONE, 8, 9)));
  }

  private static void fullByWithdrawing() {
    for (int bytes = 179; bytes <= 180; bytes++) {
      RouteSpeaker x = upWith(bytes);
      x.originate(8, 9);
      Checks.same("retract", x.retract(8, 9), true);
      if (bytes == 179) {
        Checks.same("UP with 200", x.session(0, 0) * 1000 + x.session(0, 5), 3200);
      } else {
        closed("195 and 6", x, 195);
        Checks.sent(x, 0);
        Checks.up(x, 0, 200, 20);
        Checks.row("nothing to withdraw in the next session", Checks.sent(x, 0), 6, 1, 4, 100, 9, 7, 2, 4);
      }
    }
  }

  private static void fullByTellingWhenUp() {
    for (int bytes = 177; bytes <= 178; bytes++) {
      RouteSpeaker x = filled(bytes);
      x.originate(8, 9);
      Checks.up(x, 0, 200, 20);
      if (bytes == 177) {
        Checks.same("UP with 200", x.session(0, 0) * 1000 + x.session(0, 5), 3200);
      } else {
        closed("186 and 15", x, 186);
      }
    }
  }

  private static void fullByTheLongest() {
    int[] most = Checks.join(Checks.inner(2, Checks.path(1, 2, 3, 4, 5, 6, 8, 250), 250, 255),
        Checks.ints(4, 1, 255, 9, 1, 250, 10, 5, 1, 2, 3, 4, 250));
    int[] due = Checks.told(Checks.join(Checks.outer(2, Checks.path(1, 2, 3, 4, 5, 6, 8, 250), 250),
        Checks.ints(4, 1, 255, 5, 1, 255, 9, 1, 250, 10, 6, 7, 1, 2, 3, 4, 250)), 8, 255);
    Checks.same("its size", due.length, 39);
    for (int bytes = 161; bytes <= 162; bytes++) {
      RouteSpeaker x = new RouteSpeaker();
      x.peer(0, 1, 0);
      x.peer(1, 1, 0);
      fill(x, 0, bytes - 8);
      Checks.up(x, 0, 100, 20);
      Checks.up(x, 1, 100, 21);
      Checks.announce(x, 1, most, 8, 255);
      if (bytes == 161) {
        Checks.row("UP with 200", Arrays.copyOfRange(Checks.sent(x, 0), 161, 200), due);
        Checks.same("UP", x.session(0, 0), 3);
      } else {
        closed("162 and 39", x, 162);
      }
    }
  }

  private static void fullAndTakenFrom() {
    RouteSpeaker x = upWith(198);
    x.take(0);
    Checks.agree(x, 1, 201, 9, 21);
    for (int k = 0; k < 12; k++) {
      x.take(0);
    }
    Checks.same("185", x.session(0, 5), 185);
    x.originate(8, 9);
    Checks.same("200, its end before its beginning", x.session(0, 5), 200);
    int[] all = Checks.sent(x, 0);
    Checks.row("the message is whole", Arrays.copyOfRange(all, 185, 200), Checks.toldOut(NONE, 8, 9));
  }

  private static void fullForOneAlone() {
    RouteSpeaker x = upWith(186);
    Checks.up(x, 1, 201, 21);
    Checks.sent(x, 1);
    x.originate(8, 9);
    closed("peer 0", x, 186);
    Checks.row("peer 1", Checks.sent(x, 1), Checks.toldOut(NONE, 8, 9));
    Checks.same("peer 1 is up", x.session(1, 0), 3);
  }

  private static void fromTheBeginning() {
    // Peer 1 has the best routes to 8, 1 and 8, 2; telling it 8, 3 closes its session, behind peer 0 and before 2.
    RouteSpeaker x = new RouteSpeaker();
    fill(x, 1, 178);
    Checks.up(x, 1, 201, 21);
    Checks.up(x, 0, 200, 20);
    Checks.up(x, 2, 202, 22);
    Checks.announce(x, 1, Checks.plain(1), 8, 1, 8, 2);
    Checks.sent(x, 0);
    Checks.sent(x, 2);
    x.originate(8, 3);
    Checks.same("closed", x.session(1, 0), 0);
    int[] untold = Checks.join(Checks.untold(8, 1), Checks.untold(8, 2));
    Checks.row("peer 0 was told 8, 3 before", Checks.sent(x, 0), Checks.join(Checks.toldOut(NONE, 8, 3), untold));
    Checks.row("peer 2 is told it in the order of the known", Checks.sent(x, 2),
        Checks.join(untold, Checks.toldOut(NONE, 8, 3)));
  }

  private static void oneAfterTheOther() {
    RouteSpeaker x = Checks.allUp();
    for (int p = 0; p < 4; p++) {
      Checks.announce(x, p, Checks.plain(p), 8, p);
    }
    for (int p = 0; p < 4; p++) {
      Checks.sent(x, p);
    }
    // 9 times 15 and 6 bytes, and 3 times 2, for each peer.
    for (int k = 0; k < 9; k++) {
      x.originate(8, 9);
      x.retract(8, 9);
      x.tick();
      for (int p = 0; p < 4; p++) {
        Checks.feed(x, p, 2, 4);
      }
    }
    // Peer 0 has no room for what is told, 1 none for a withdrawal, 2 for one alone, 3 for two.
    for (int k = 0; k < 12; k++) {
      x.take(3);
      if (k < 6) {
        x.take(2);
      }
    }
    Checks.row("the rows before", rows(x), 195, 195, 189, 183);
    x.originate(8, 20);
    Checks.row("the rows behind", rows(x), 195, 195, 195, 195);
    for (int p = 0; p < 4; p++) {
      int peer = p;
      Checks.idle("closed", x, p);
      Checks.refused("its route is gone", Checks.NO_ELEMENT, () -> x.best(8, peer, 0));
      Checks.same("and not withdrawn", x.penalty(p, 8, p), 0.0);
    }
    Checks.same("what it began with", x.best(8, 20, 0), Checks.OWN);
  }

  private static int[] rows(RouteSpeaker x) {
    return Checks.ints(x.session(0, 5), x.session(1, 5), x.session(2, 5), x.session(3, 5));
  }

  private static void itsOwnMessage() {
    // What peer 0 announces makes another's route the best no longer, which it was told: no room to withdraw it.
    RouteSpeaker x = new RouteSpeaker();
    Checks.up(x, 1, 201, 21);
    Checks.announce(x, 1, Checks.outer(0, Checks.path(201, 5), 30), 8, 9);
    fill(x, 0, 171);
    Checks.up(x, 0, 200, 20);
    Checks.same("196", x.session(0, 5), 179 + 17);
    Checks.sent(x, 1);
    int[] update = Checks.update(NONE, Checks.plain(0), 8, 9);
    Checks.feed(x, 0, Checks.join(update, Checks.ints(2, 4, 2)));
    Checks.idle("closed, and what came behind it is lost", x, 0);
    Checks.same("196 still", x.session(0, 5), 196);
    Checks.same("the other's route is the best again", x.best(8, 9, 0), 1);
    Checks.row("the other was told nothing meanwhile", Checks.sent(x, 1));
  }
}
