import java.util.Arrays;

/**
 * Random runs of calls, each answer compared with that of the model. The numbers are always the same ones; an argument
 * says how many runs. With what is only looked at, a run has more than the 512 calls that are promised: nothing in this
 * program or in the model depends on how many there were, and so more of what meets late is tried.
 */
final class ModelTest {
  private static final int RUNS = 250;
  private static final int CALLS = 400;

  private long seed;
  private RouteSpeaker x;
  private Model m;
  private StringBuilder story;
  private boolean wrong;
  private final int[] roles = new int[4];
  private final int[] networks = new int[4];
  private int lavish;

  private static final int[] seen = new int[4];
  private static int bests;
  private static int damped;

  public static void main(String[] args) {
    int runs = args.length > 0 ? Integer.parseInt(args[0]) : RUNS;
    int bad = 0;
    for (int run = 1; run <= runs && bad < 3; run++) {
      ModelTest test = new ModelTest();
      test.seed = run * 7919L;
      bad += test.run() ? 0 : 1;
    }
    System.out.println("sessions idle, sent, agreed, up: " + Arrays.toString(seen)
        + ", best routes: " + bests + ", damped: " + damped);
    Checks.same("wrong runs", bad, 0);
    Checks.same("most of it was met", seen[3] > 1000 && bests > 1000 && damped > 100, true);
    Checks.finish();
  }

  private int random(int bound) {
    seed = seed * 6364136223846793005L + 1442695040888963407L;
    return (int) ((seed >>> 33) % bound);
  }

  private boolean chance(int of) {
    return random(of) == 0;
  }

  private boolean run() {
    x = new RouteSpeaker();
    m = new Model();
    story = new StringBuilder();
    lavish = random(3);
    for (int p = 0; p < 4; p++) {
      roles[p] = random(3);
      networks[p] = roles[p] == 0 ? 200 + p : 100;
      setPeer(p, roles[p], 200 + p);
    }
    for (int call = 0; call < CALLS && !wrong; call++) {
      next();
      look();
    }
    if (wrong) {
      String text = story.toString();
      System.out.println(text.substring(Math.max(0, text.length() - 3000)));
    }
    return !wrong;
  }

  private void compare(String what, Checks.Call real, Checks.Call model) {
    String got = Checks.outcome(real);
    String due = Checks.outcome(model);
    story.append(what).append(" -> ").append(got).append('\n');
    if (!got.equals(due)) {
      story.append("due is ").append(due).append('\n');
      wrong = true;
    }
  }

  private void look() {
    for (int p = 0; p < 4 && !wrong; p++) {
      for (int what = 0; what <= 6; what++) {
        int peer = p;
        int k = what;
        int got = x.session(p, what);
        if (got != m.session(p, what)) {
          compare("session(" + p + ", " + what + ")", () -> x.session(peer, k), () -> m.session(peer, k));
        }
      }
      seen[x.session(p, 0)]++;
    }
    if (x.known() != m.known()) {
      compare("known()", () -> x.known(), () -> m.known());
    }
    if (chance(3)) {
      lookAtRoutes(length());
    }
  }

  private void lookAtRoutes(int length) {
    int address = address(length);
    String name = "(" + length + ", " + address + ")";
    for (int what = 0; what <= 21 && !wrong; what++) {
      int k = what;
      compare("best " + what + name, () -> x.best(length, address, k), () -> m.best(length, address, k));
    }
    bests += Checks.outcome(() -> x.best(length, address, 0)).length() == 1 ? 1 : 0;
    for (int p = 0; p < 4 && !wrong; p++) {
      int peer = p;
      compare("flaw " + p + name, () -> x.flaw(peer, length, address), () -> m.flaw(peer, length, address));
      compare("penalty " + p + name, () -> x.penalty(peer, length, address), () -> m.penalty(peer, length, address));
      damped += "2".equals(Checks.outcome(() -> x.flaw(peer, length, address))) ? 1 : 0;
    }
    int to = random(256);
    compare("forward " + to, () -> x.forward(to), () -> m.forward(to));
  }

  private int address(int length) {
    int[] few = {0xA5, 0xA7, 0x13, 0xFF, 0};
    int address = few[random(lavish == 0 ? 5 : lavish == 1 ? 2 : 1)];
    return length > 8 ? address : address >> (8 - length) << (8 - length);
  }

  /** In most runs there are but few prefixes, so that much happens to each. */
  private int length() {
    int[] few = {8, 4, 0};
    return lavish == 0 || chance(60) ? random(9) : few[random(3)];
  }

  private int peerNumber() {
    return chance(60) ? random(7) - 2 : random(4);
  }

  private void next() {
    int p = peerNumber();
    boolean real = p >= 0 && p < 4;
    int kind = random(60);
    if (real && x.session(p, 0) < 3 && kind < 50) {
      bringUp(p);
    } else if (kind < 30) {
      feed(p, changed(real ? updateFrom(p) : Checks.NOTHING));
    } else if (kind < 36) {
      feed(p, new int[] {2, 4});
    } else if (kind < 42) {
      for (int k = 0; k < 4; k++) {
        takeAll(k);
      }
    } else if (kind < 48) {
      compare("tick()", () -> x.tick(), () -> m.tick());
    } else if (kind < 52) {
      originating();
    } else if (kind < 57) {
      setting(p);
    } else if (kind == 57) {
      compare("stop(" + p + ")", () -> x.stop(p), () -> m.stop(p));
    } else if (kind == 58) {
      feed(p, changed(new int[] {random(70), random(6), random(256), random(256), 9, 9}));
    } else {
      setPeer(p, random(4), random(260));
    }
  }

  private void bringUp(int p) {
    compare("start(" + p + ")", () -> x.start(p), () -> m.start(p));
    int[] times = {9, 9, 0, 3, 6, 255, 5, 2};
    int[] open = {6, 1, 4, networks[p], times[random(chance(5) ? 8 : 7)], chance(4) ? 8 : 20 + random(4)};
    feed(p, chance(12) ? changed(open) : open);
    feed(p, chance(12) ? changed(new int[] {2, 4}) : new int[] {2, 4});
  }

  private void setPeer(int p, int role, int network) {
    compare("peer(" + p + ", " + role + ", " + network + ")", () -> Checks.done(() -> x.peer(p, role, network)),
        () -> Checks.done(() -> m.peer(p, role, network)));
    if (p >= 0 && p < 4 && story.toString().endsWith("done\n")) {
      roles[p] = role;
      networks[p] = role == 0 ? network : 100;
    }
  }

  private void takeAll(int p) {
    int most = chance(8) ? random(60) : 220;
    for (int k = 0; k < most && !wrong; k++) {
      String got = Checks.outcome(() -> x.take(p));
      String due = Checks.outcome(() -> m.take(p));
      if (!got.equals(due)) {
        story.append("take(").append(p).append(") -> ").append(got).append(", due is ").append(due).append('\n');
        wrong = true;
      }
      if (!Character.isDigit(got.charAt(0))) {
        break;
      }
    }
  }

  private void originating() {
    int length = chance(20) ? random(12) - 2 : length();
    int address = chance(20) ? random(300) - 20 : address(Math.max(0, length));
    String name = "(" + length + ", " + address + ")";
    if (chance(2)) {
      compare("originate" + name, () -> x.originate(length, address), () -> m.originate(length, address));
    } else {
      compare("retract" + name, () -> x.retract(length, address), () -> m.retract(length, address));
    }
  }

  private void setting(int p) {
    int length = chance(20) ? random(12) - 2 : length();
    int address = chance(20) ? random(300) - 20 : address(Math.max(0, length));
    int number = chance(3) ? 0 : chance(2) ? 100 : random(203) - 1;
    int padding = chance(30) ? random(8) - 2 : random(4);
    int muteLength = chance(2) ? -1 : length;
    switch (random(3)) {
      case 0:
        compare("rule(" + p + ", " + length + ", " + address + ", " + number + ")",
            () -> Checks.done(() -> x.rule(p, length, address, number)),
            () -> Checks.done(() -> m.rule(p, length, address, number)));
        break;
      case 1:
        compare("unrule(" + p + ")", () -> Checks.done(() -> x.unrule(p)), () -> Checks.done(() -> m.unrule(p)));
        break;
      default:
        compare("outbound(" + p + ", " + padding + ", " + muteLength + ", " + address + ")",
            () -> Checks.done(() -> x.outbound(p, padding, muteLength, address)),
            () -> Checks.done(() -> m.outbound(p, padding, muteLength, address)));
    }
  }

  private void feed(int p, int[] bytes) {
    story.append(Arrays.toString(bytes)).append('\n');
    int from = 0;
    while (from < bytes.length && !wrong) {
      int n = Math.min(bytes.length - from, 1 + random(8));
      long packed = random(1 << 30);
      for (int i = 0; i < n; i++) {
        packed = packed << 8 | bytes[from + i] & 255;
      }
      long value = packed;
      int count = chance(200) ? random(12) - 1 : n;
      compare("feed(" + p + ", " + value + ", " + count + ")", () -> x.feed(p, value, count), () -> m.feed(p, value, count));
      from += n;
    }
  }

  /** Mostly the same, now and then with another byte, or cut. */
  private int[] changed(int[] bytes) {
    int[] other = bytes.clone();
    if (other.length > 0 && chance(25)) {
      int[] few = {0, 1, 7, 100, 128, 255, other.length, random(256)};
      other[random(other.length)] = few[random(8)];
    }
    return other.length > 0 && chance(120) ? Arrays.copyOf(other, random(other.length)) : other;
  }

  private int[] prefixes() {
    int[] row = new int[2 * (chance(3) ? random(4) : 1)];
    for (int k = 0; k < row.length; k += 2) {
      row[k] = length();
      row[k + 1] = address(row[k]);
    }
    return row;
  }

  private int[] list(int most, int first, int... often) {
    int[] row = new int[chance(8) ? random(most + 1) : chance(60) ? most + 1 : random(4)];
    for (int k = 0; k < row.length; k++) {
      row[k] = chance(80) ? random(256) : often[random(often.length)];
    }
    if (row.length > 0 && first > 0 && !chance(40)) {
      row[0] = first;
    }
    return row;
  }

  private int[] updateFrom(int p) {
    int[] announced = chance(4) ? Checks.NOTHING : prefixes();
    int[] withdrawn = chance(3) ? prefixes() : Checks.NOTHING;
    int[] path = list(8, roles[p] == 0 ? networks[p] : 0, 5, 6, 200, 201, 202, 203);
    if (path.length == 0 && roles[p] == 0) {
      path = new int[] {networks[p]};
    }
    int[] attributes = Checks.join(Checks.attribute(1, chance(2) ? 0 : random(3)), Checks.path(path),
        Checks.attribute(3, chance(60) ? random(10) : 30 + random(2)));
    if (chance(3)) {
      attributes = Checks.join(attributes, Checks.attribute(4, random(3)));
    }
    if (roles[p] > 0 ? !chance(60) : chance(5)) {
      attributes = Checks.join(attributes, Checks.attribute(5, chance(4) ? random(256) : 100));
    }
    if (chance(4)) {
      attributes = Checks.join(attributes, Checks.attribute(9, chance(30) ? 7 : 20 + random(5)));
    }
    if (chance(4)) {
      attributes = Checks.join(attributes, Checks.attribute(10, list(6, 0, 1, 2, 3, 4)));
    }
    if (chance(10)) {
      attributes = Checks.join(attributes, Checks.attribute(chance(10) ? random(256) : 128 + random(128), list(4, 0, 9)));
    }
    return Checks.update(withdrawn, attributes, announced);
  }
}
