/** Promise 10: the tests of an UPDATE, one by one and in their order. */
final class UpdateTest {
  private static final int[] NONE = Checks.NOTHING;
  private static final int[] GOOD = Checks.plain(0);

  public static void main(String[] args) {
    taken();
    framing();
    repeatedNames();
    unknownNames();
    lengths();
    values();
    lists();
    missing();
    firstNetwork();
    prefixes();
    order();
    attributesOneByOne();
    nothingOfAWrongOne();
    Checks.finish();
  }

  private static int[] plus(int... attributes) {
    return Checks.join(GOOD, attributes);
  }

  /** What an UPDATE ends the session with (code * 100 + subcode), or 0. */
  private static int fault(int role, int[] bytes) {
    RouteSpeaker x = Checks.allUp(role, 0, 0, 0);
    Checks.feed(x, 0, bytes);
    int[] sent = Checks.sent(x, 0);
    if (x.session(0, 0) == 3) {
      Checks.row("nothing is sent for a good UPDATE", sent);
      return 0;
    }
    Checks.same("idle", x.session(0, 0), 0);
    Checks.same("a NOTIFICATION", sent.length == 4 && sent[0] == 4 && sent[1] == 3, true);
    return sent[2] * 100 + sent[3];
  }

  private static void good(String what, int role, int[] bytes) {
    Checks.same(what, fault(role, bytes), 0);
  }

  private static void wrong(String what, int role, int[] bytes, int subcode) {
    Checks.same(what, fault(role, bytes), 300 + subcode);
  }

  private static int[] raw(int... rest) {
    return Checks.join(Checks.ints(rest.length + 2, 2), rest);
  }

  private static int[] with(int... attributes) {
    return Checks.update(NONE, attributes, 8, 9);
  }

  private static void taken() {
    good("an empty one", 0, raw(0, 0));
    good("withdrawn alone", 0, Checks.update(Checks.ints(8, 1, 0, 0), NONE));
    good("attributes alone", 0, Checks.update(NONE, GOOD));
    good("announced", 0, with(GOOD));
    RouteSpeaker x = Checks.allUp();
    Checks.announce(x, 0, GOOD, 8, 200, 6, 200);
    Checks.feed(x, 0, Checks.update(NONE, Checks.ints(200, 6, 0, 0, 0, 0, 0, 0)));
    Checks.feed(x, 0, Checks.update(NONE, Checks.ints(200, 4, 8, 200, 6, 200)));
    Checks.same("attributes are no prefixes", x.best(8, 200, 0) + x.best(6, 200, 0), 0);
    good("60 bytes", 0, Checks.update(NONE, Checks.join(GOOD, Checks.attribute(200, new int[43])), 8, 9));
  }

  private static void framing() {
    wrong("withdrawn beyond the end", 0, raw(1, 8), 1);
    wrong("no attribute count", 0, raw(1, 8, 9), 1);
    wrong("255 withdrawn", 0, raw(255, 0), 1);
    wrong("attributes beyond the end", 0, raw(0, 1), 1);
    wrong("255 bytes of attributes", 0, raw(0, 255, 1, 1, 0), 1);
    wrong("half a prefix announced", 0, raw(0, 0, 8), 1);
    wrong("three halves announced", 0, raw(0, 0, 8, 9, 8), 1);
    wrong("a name alone", 0, raw(0, 1, 200), 1);
    wrong("a name alone behind a whole attribute", 0, raw(0, 4, 1, 1, 0, 200), 1);
    wrong("a value beyond the attributes", 0, raw(0, 3, 200, 2, 0, 8, 9), 1);
    wrong("a value beyond the message", 0, raw(0, 3, 200, 255, 0), 1);
    good("an empty value at the end", 0, raw(0, 2, 200, 0));
    good("prefixes to the end", 0, raw(1, 8, 9, 0));
  }

  private static void repeatedNames() {
    wrong("ORIGIN twice", 0, with(plus(1, 1, 0)), 1);
    wrong("PATH twice", 0, with(plus(2, 1, 200)), 1);
    wrong("CLUSTERS twice", 0, with(plus(10, 0, 10, 0)), 1);
    wrong("128 twice", 0, with(plus(128, 0, 128, 1, 5)), 1);
    wrong("255 twice", 0, with(plus(255, 0, 4, 1, 2, 255, 0)), 1);
    wrong("twice before a wrong value", 0, with(plus(1, 1, 3)), 1);
    good("128 and 255", 0, with(plus(128, 2, 0, 255, 255, 0)));
  }

  private static void unknownNames() {
    for (int name : new int[] {0, 6, 7, 8, 11, 127}) {
      wrong("name " + name, 0, with(plus(name, 1, 1)), 2);
      wrong("name " + name + " of no bytes", 0, Checks.update(NONE, Checks.ints(name, 0)), 2);
    }
    good("name 128", 0, with(plus(128, 1, 1)));
  }

  private static void lengths() {
    for (int name : new int[] {1, 3, 4, 5, 9}) {
      wrong("no byte for " + name, 0, Checks.update(NONE, Checks.ints(name, 0)), 5);
      wrong("two bytes for " + name, 0, Checks.update(NONE, Checks.ints(name, 2, 1, 1)), 5);
    }
    good("a PATH of 8", 0, Checks.update(NONE, Checks.path(1, 2, 3, 4, 5, 6, 7, 250)));
    wrong("a PATH of 9", 0, Checks.update(NONE, Checks.path(1, 2, 3, 4, 5, 6, 7, 8, 0)), 5);
    good("an empty PATH", 0, Checks.update(NONE, Checks.path()));
    good("6 CLUSTERS", 0, Checks.update(NONE, Checks.attribute(10, 1, 2, 3, 4, 7, 250)));
    wrong("7 CLUSTERS", 0, Checks.update(NONE, Checks.attribute(10, 1, 2, 3, 4, 5, 6, 0)), 5);
    good("no CLUSTERS", 0, Checks.update(NONE, Checks.attribute(10)));
  }

  private static void values() {
    for (int value = 0; value <= 255; value++) {
      int[] bad = {value > 2 ? 6 : 0, value < 1 || value > 250 || value == 7 ? 8 : 0, value < 1 || value > 250 ? 9 : 0};
      int[] names = {1, 3, 9};
      for (int k = 0; k < 3; k++) {
        int due = bad[k] == 0 ? 0 : 300 + bad[k];
        if (value < 9 || value > 248 || value == 100) {
          Checks.same("name " + names[k] + " value " + value,
              fault(0, Checks.update(NONE, Checks.ints(names[k], 1, value))), due);
        }
      }
    }
    for (int value : new int[] {0, 7, 100, 251, 255}) {
      good("METRIC " + value, 0, Checks.update(NONE, Checks.ints(4, 1, value)));
      good("PREFERENCE " + value, 0, Checks.update(NONE, Checks.ints(5, 1, value)));
    }
  }

  private static void lists() {
    for (int value : new int[] {0, 251, 255}) {
      wrong("a PATH with " + value, 0, Checks.update(NONE, Checks.path(200, value)), 11);
      wrong("a PATH that begins with " + value, 0, Checks.update(NONE, Checks.path(value, 200)), 11);
      wrong("CLUSTERS with " + value, 0, Checks.update(NONE, Checks.attribute(10, 1, 2, 3, 4, 5, value)), 11);
    }
    for (int value : new int[] {1, 7, 100, 250}) {
      good("a PATH with " + value, 0, Checks.update(NONE, Checks.path(200, value)));
      good("CLUSTERS with " + value, 0, Checks.update(NONE, Checks.attribute(10, value)));
    }
  }

  private static void missing() {
    int[] origin = Checks.attribute(1, 0);
    int[] path = Checks.path(200);
    int[] next = Checks.attribute(3, 30);
    wrong("nothing but a prefix", 0, with(), 3);
    wrong("no ORIGIN", 0, with(Checks.join(path, next)), 3);
    wrong("no PATH", 0, with(Checks.join(origin, next)), 3);
    wrong("no NEXT", 0, with(Checks.join(origin, path)), 3);
    good("in another order", 0, with(Checks.join(next, path, origin)));
    for (int role = 1; role <= 2; role++) {
      wrong("no PREFERENCE of role " + role, role, with(GOOD), 3);
      good("PREFERENCE of role " + role, role, with(plus(5, 1, 0)));
    }
  }

  private static void firstNetwork() {
    wrong("another network first", 0, with(Checks.outer(0, Checks.path(201, 200), 30)), 11);
    wrong("an empty PATH", 0, with(Checks.outer(0, Checks.path(), 30)), 11);
    RouteSpeaker x = Checks.allUp();
    Checks.announce(x, 0, GOOD, 8, 9);
    Checks.announce(x, 0, Checks.outer(0, Checks.path(), 30), 8, 9);
    Checks.row("an empty PATH behind a good one", Checks.sent(x, 0), 4, 3, 3, 11);
    for (int network : new int[] {1, 250}) {
      x.peer(0, 0, network);
      Checks.up(x, 0, network, 20);
      Checks.sent(x, 0);
      Checks.announce(x, 0, Checks.outer(0, Checks.path(), 30), 8, 9);
      Checks.row("an empty PATH for " + network, Checks.sent(x, 0), 4, 3, 3, 11);
    }
    good("its network first", 0, with(Checks.outer(0, Checks.path(200, 201), 30)));
    for (int role = 1; role <= 2; role++) {
      good("an internal one's empty PATH", role, with(Checks.inner(0, Checks.path(), 30, 5)));
      good("an internal one's other network", role, with(Checks.inner(0, Checks.path(201), 30, 5)));
    }
    good("nothing announced", 0, Checks.update(NONE, Checks.path(201)));
  }

  private static void prefixes() {
    int[][] wrongs = {{9, 0}, {255, 0}, {0, 1}, {0, 128}, {4, 8}, {7, 1}, {1, 64}};
    for (int[] w : wrongs) {
      wrong("withdrawn " + w[0] + ", " + w[1], 0, Checks.update(w, NONE), 10);
      wrong("announced " + w[0] + ", " + w[1], 0, Checks.update(NONE, GOOD, w), 10);
      wrong("announced behind a good one", 0, Checks.update(NONE, GOOD, Checks.join(Checks.ints(8, 9), w)), 10);
    }
    good("the edges", 0, Checks.update(NONE, GOOD, 0, 0, 8, 255, 1, 128, 7, 254, 4, 240));
  }

  private static void order() {
    wrong("framing before the attributes", 0, raw(0, 5, 6, 1, 1, 200, 1, 8, 9), 1);
    wrong("missing before the first network", 0, with(Checks.join(Checks.path(9), Checks.attribute(3, 30))), 3);
    wrong("an attribute before missing", 0, with(4, 2, 0, 0), 5);
    wrong("missing before a prefix", 0, Checks.update(Checks.ints(9, 9), NONE, 8, 9), 3);
    wrong("the first network before a prefix", 0,
        Checks.update(Checks.ints(9, 9), Checks.outer(0, Checks.path(9), 30), 8, 9), 11);
    RouteSpeaker x = Checks.allUp();
    for (int i = 0; i < 12; i++) {
      x.originate(8, i);
    }
    Checks.sent(x, 0);
    Checks.announce(x, 0, GOOD, 8, 99, 9, 0);
    Checks.row("a prefix before how many are known", Checks.sent(x, 0), 4, 3, 3, 10);
  }

  private static void attributesOneByOne() {
    wrong("ORIGIN's value before PATH's length", 0, with(1, 1, 3, 2, 9, 1, 1, 1, 1, 1, 1, 1, 1, 1), 6);
    wrong("a name before a value", 0, with(6, 1, 1, 1, 1, 3), 2);
    wrong("a length before a name", 0, with(3, 0, 6, 1, 1), 5);
    wrong("PATH's number before the name twice", 0, with(2, 1, 0, 2, 1, 0), 11);
    wrong("SOURCE before NEXT", 0, with(9, 1, 0, 3, 1, 0), 9);
    wrong("NEXT before SOURCE", 0, with(3, 1, 0, 9, 1, 0), 8);
  }

  private static void nothingOfAWrongOne() {
    RouteSpeaker x = Checks.allUp();
    for (int name : new int[] {0, 6, 200, 255}) {
      int[] twice = Checks.update(NONE, Checks.ints(name, 0, name, 0));
      int[] once = Checks.update(NONE, Checks.ints(name, 0));
      Checks.feed(x, 1, twice);
      Checks.feed(x, 2, once);
      Checks.row("name " + name + " twice", Checks.sent(x, 1), 4, 3, 3, name < 128 ? 2 : 1);
      Checks.row("each message by itself", Checks.sent(x, 2), name < 128 ? Checks.ints(4, 3, 3, 2) : NONE);
      for (int p = 1; p <= 2; p++) {
        Checks.up(x, p, 200 + p, 20 + p);
        Checks.sent(x, p);
      }
    }
    Checks.announce(x, 0, GOOD, 8, 9);
    Checks.feed(x, 0, Checks.update(Checks.ints(8, 9), GOOD, 8, 10, 9, 0));
    Checks.same("nothing of it is known", x.known(), 1);
    Checks.same("no penalty for what it withdraws", x.penalty(0, 8, 9), 0.0);
  }
}
