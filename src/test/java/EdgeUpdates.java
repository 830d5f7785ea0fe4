/** The sentences about what is tested of an UPDATE, and what of it is taken in. */
final class EdgeUpdates {
  private static final int[] NONE = Checks.NOTHING;
  private static final int[] GOOD = Checks.plain(0);
  private static final int[] NAMES = {1, 2, 3, 4, 5, 9, 10};

  private EdgeUpdates() {}

  static void run() {
    Sentences.holds("UPDATE: how many prefixes are WITHDRAWN; these; how many bytes of ATTRIBUTES there are; these; "
        + "prefixes that are ANNOUNCED, to the end. A prefix: its length and its address.", EdgeUpdates::parts);
    Sentences.holds("1 ORIGIN (one byte, 0 .. 2),", () -> oneByte(1, 6, 0, 2));
    Sentences.holds("2 PATH (0 to 8 networks),", () -> list(2, 8));
    Sentences.holds("3 NEXT (one byte, a next hop),", () -> oneByte(3, 8, 1, 250));
    Sentences.holds("4 METRIC (one byte),", () -> oneByte(4, 0, 0, 255));
    Sentences.holds("5 PREFERENCE (one byte),", () -> oneByte(5, 0, 0, 255));
    Sentences.holds("9 SOURCE (one byte, an ID),", () -> oneByte(9, 9, 1, 250));
    Sentences.holds("10 CLUSTERS (0 to 6 IDs).", () -> list(10, 6));
    Sentences.holds("Other names from 128 on are passed over.", EdgeUpdates::passedOver);
    Sentences.holds("UPDATES are tested in this order, and END the session with code 3 and a subcode:",
        EdgeUpdates::order);
    Sentences.holds("1 the withdrawn prefixes or the attributes, as counted, do not lie in the message,",
        EdgeUpdates::counts);
    Sentences.holds("or what is behind them is not prefixes of two bytes each,", EdgeUpdates::oddRest);
    Sentences.holds("or an attribute does not lie in the attributes.", EdgeUpdates::attributesWithin);
    Sentences.holds("Then for each attribute, all of these for one, then for the next:", EdgeUpdates::oneThenTheNext);
    Sentences.holds("1 its name was there before (also one from 128 on);", EdgeUpdates::twice);
    Sentences.holds("2 its name is below 128 and none of these;", EdgeUpdates::noSuchName);
    Sentences.holds("5 it has another number of bytes than said;", EdgeUpdates::otherLength);
    Sentences.holds("6 ORIGIN, 8 NEXT (also 7, the speaker's own), or 9 SOURCE, is not as said;",
        EdgeUpdates::otherValue);
    Sentences.holds("11 PATH or CLUSTERS has a number that is none.", EdgeUpdates::noNumber);
    Sentences.holds("Then, if something is announced: 3 if there is no ORIGIN, no PATH, no NEXT, "
        + "or, of an internal peer, no PREFERENCE;", EdgeUpdates::missing);
    Sentences.holds("11 if an external one's PATH does not begin with its network.", EdgeUpdates::firstNetwork);
    Sentences.holds("Then 10 if a withdrawn or an announced prefix is none.", EdgeUpdates::noPrefix);
    Sentences.holds("Then END 6, 1 if more than 12 prefixes would be known.", EdgeUpdates::tooManyKnown);
    Sentences.holds("Then each withdrawn prefix, and then each announced one: a route of this peer to it goes, "
        + "or comes in place of the one that was there.", EdgeUpdates::goesAndComes);
    Sentences.holds("(PREFERENCE, SOURCE and CLUSTERS of an external peer do not matter.)",
        EdgeUpdates::doesNotMatter);
    Sentences.holds("A route is BARRED if its PATH has 100, its SOURCE is 7, or 7 is in its CLUSTERS.",
        EdgeUpdates::barred);
  }

  /** What a message of peer 0 with a role leads to: 0, or the code times 100 and the subcode it was ended with. */
  private static int outcome(int role, int... message) {
    RouteSpeaker x = new RouteSpeaker();
    x.peer(0, role, 200);
    Checks.up(x, 0, role == 0 ? 200 : 100, 20);
    Checks.sent(x, 0);
    Checks.feed(x, 0, message);
    int[] sent = Checks.sent(x, 0);
    if (x.session(0, 0) == 3 && sent.length == 0) {
      return 0;
    }
    Checks.idle("ended", x, 0);
    return sent.length == 4 && sent[0] == 4 && sent[1] == 3 ? 100 * sent[2] + sent[3] : -1;
  }

  private static void leads(String what, int due, int... message) {
    Checks.same(what, outcome(0, message), due);
  }

  /** An UPDATE by its bytes behind the type. */
  private static int[] raw(int... rest) {
    return Checks.join(Checks.ints(rest.length + 2, 2), rest);
  }

  /** Attributes, and one prefix announced. */
  private static int[] with(int... attributes) {
    return Checks.update(NONE, attributes, 8, 9);
  }

  /** Attributes, and nothing announced. */
  private static int[] alone(int... attributes) {
    return Checks.update(NONE, attributes);
  }

  private static int[] plus(int... attributes) {
    return Checks.join(GOOD, attributes);
  }

  private static int[] same(int count, int length, int address) {
    int[] prefixes = new int[2 * count];
    for (int k = 0; k < prefixes.length; k += 2) {
      prefixes[k] = length;
      prefixes[k + 1] = address;
    }
    return prefixes;
  }

  private static void parts() {
    leads("nothing of anything", 0, raw(0, 0));
    leads("28 withdrawn, that is 60 bytes", 0, Checks.update(same(28, 8, 9), NONE));
    leads("56 bytes of attributes, that is 60 bytes", 0, alone(Checks.attribute(128, new int[54])));
    leads("23 announced, that is 60 bytes", 0,
        Checks.update(NONE, Checks.outer(0, Checks.path(200, 9), 30), same(23, 8, 9)));
    RouteSpeaker x = Checks.allUp();
    Checks.feed(x, 0, Checks.update(Checks.ints(8, 1, 8, 2), GOOD, 8, 3, 4, 48));
    Checks.same("two are announced", x.known(), 2);
    Checks.row("by length and address", Checks.ints(x.best(8, 3, 0), x.best(4, 48, 0)), 0, 0);
    Checks.feed(x, 0, Checks.update(Checks.ints(8, 3, 4, 48), NONE));
    Checks.refused("withdrawn", Checks.NO_ELEMENT, () -> x.flaw(0, 8, 3));
    Checks.refused("and the last of them", Checks.NO_ELEMENT, () -> x.flaw(0, 4, 48));
    Checks.feed(x, 0, raw(0, 6, 255, 4, 8, 1, 8, 2));
    Checks.same("what is in attributes is not announced", x.known(), 2);
    Checks.announce(x, 0, GOOD, 2, 0);
    Checks.feed(x, 0, raw(0, 0));
    Checks.same("type and count are not withdrawn", x.flaw(0, 2, 0), 0);
  }

  /** An attribute of one byte, which is good from a least to a greatest value. */
  private static void oneByte(int name, int subcode, int least, int greatest) {
    for (int value = 0; value <= 255; value++) {
      boolean good = value >= least && value <= greatest && (name != 3 || value != 7);
      leads("name " + name + " with " + value, good ? 0 : 300 + subcode, alone(name, 1, value));
    }
    leads("no byte", 305, alone(name, 0));
    leads("two bytes", 305, alone(name, 2, 1, 1));
    leads("many bytes", 305, alone(Checks.attribute(name, new int[50])));
  }

  /** An attribute of up to so many numbers. */
  private static void list(int name, int most) {
    for (int count = 0; count <= most + 2; count++) {
      int[] value = new int[count];
      java.util.Arrays.fill(value, 250);
      leads(count + " numbers", count <= most ? 0 : 305, alone(Checks.attribute(name, value)));
    }
    RouteSpeaker x = Checks.allUp(1, 0, 0, 0);
    for (int count = 0; count <= most; count++) {
      int[] value = new int[count];
      for (int k = 0; k < count; k++) {
        value[k] = 11 + k;
      }
      int[] base = Checks.join(Checks.attribute(1, 0), Checks.attribute(3, 30), Checks.attribute(5, 9));
      int[] other = name == 2 ? Checks.attribute(10) : Checks.path(5);
      Checks.announce(x, 0, Checks.join(base, other, Checks.attribute(name, value)), 8, count);
      Checks.same("how many", x.best(8, count, name == 2 ? 3 : 7), count);
      int first = name == 2 ? 8 : 16;
      for (int k = 0; k < most; k++) {
        Checks.same("the number " + k + " of " + count, x.best(8, count, first + k), k < count ? 11 + k : 0);
      }
    }
  }

  private static void passedOver() {
    for (int name : new int[] {128, 129, 200, 254, 255}) {
      leads(name + " without a byte", 0, with(plus(name, 0)));
      leads(name + " before the others", 0, with(Checks.join(Checks.ints(name, 3, 0, 255, 7), GOOD)));
      leads(name + " with all the room", 0, with(plus(Checks.attribute(name, new int[43]))));
      leads(name + " for what is missing", 303, with(name, 1, 1));
    }
    leads("many of them", 0, with(plus(128, 0, 129, 0, 130, 1, 0, 254, 0, 255, 0)));
    leads("127 is not", 302, with(plus(127, 0)));
  }

  private static void order() {
    int[] none = {9, 0};
    leads("1 before all", 301, raw(0, 3, 6, 1, 1, 9));
    leads("2 before 3", 302, with(6, 0));
    leads("5 before 3", 305, with(1, 2, 0, 0));
    leads("11 of a number before 3", 311, with(2, 1, 0));
    leads("3 before 11 of the first network", 303, with(2, 1, 9));
    leads("3 before 10", 303, Checks.update(NONE, NONE, none));
    leads("11 before 10", 311, Checks.update(NONE, Checks.outer(0, Checks.path(9), 30), none));
    leads("10 at last", 310, Checks.update(none, GOOD, 8, 9));
    int[] thirteen = new int[26];
    for (int k = 0; k < 13; k++) {
      thirteen[2 * k] = 8;
      thirteen[2 * k + 1] = k;
    }
    leads("6, 1 behind them", 601, Checks.update(NONE, GOOD, thirteen));
    thirteen[24] = 9;
    leads("10 before 6, 1", 310, Checks.update(NONE, GOOD, thirteen));
  }

  private static void counts() {
    leads("1 withdrawn, and no byte more", 301, raw(1, 0));
    leads("1 withdrawn, and half of it", 301, raw(1, 8));
    leads("1 withdrawn, and no count of attributes", 301, raw(1, 8, 9));
    leads("1 withdrawn, and all there", 0, raw(1, 8, 9, 0));
    leads("2 withdrawn, and one there", 301, raw(2, 8, 9, 0));
    leads("2 withdrawn, and one and a half there", 301, raw(2, 8, 9, 8, 0));
    leads("255 withdrawn", 301, raw(255, 0));
    leads("128 withdrawn", 301, raw(128, 0));
    leads("29 withdrawn in 60 bytes", 301, Checks.join(Checks.ints(60, 2, 29), new int[57]));
    leads("28 withdrawn in 59 bytes", 301, Checks.join(Checks.ints(59, 2, 28), new int[56]));
    leads("28 withdrawn in 60 bytes", 0, Checks.join(Checks.ints(60, 2, 28), new int[57]));
    leads("1 byte of attributes, and none there", 301, raw(0, 1));
    leads("3 bytes, and 2 there", 301, raw(0, 3, 200, 1));
    leads("3 bytes, and 3 there", 0, raw(0, 3, 200, 1, 0));
    leads("255 bytes", 301, raw(0, 255, 200, 1, 0));
    leads("254 bytes that are even", 301, raw(0, 254, 200, 0));
    leads("behind a withdrawn one", 301, raw(1, 8, 9, 3, 200, 1));
  }

  private static void oddRest() {
    leads("one byte", 301, raw(0, 0, 8));
    leads("three bytes", 301, raw(0, 0, 8, 9, 8));
    leads("one byte behind attributes", 301, raw(0, 2, 200, 0, 8));
    leads("one byte behind a withdrawn one", 301, raw(1, 8, 9, 0, 8));
    leads("no byte", 0, raw(1, 8, 9, 0));
    leads("two bytes are a prefix", 303, raw(0, 0, 8, 9));
    leads("55 bytes", 301, Checks.join(Checks.ints(59, 2, 0, 0), new int[55]));
    leads("56 bytes are prefixes", 303, Checks.join(Checks.ints(60, 2, 0, 0), new int[56]));
  }

  private static void attributesWithin() {
    leads("a name alone", 301, raw(0, 1, 200));
    leads("a name alone, and a prefix", 301, raw(0, 1, 200, 8, 9));
    leads("a name alone behind one that is whole", 301, raw(0, 3, 200, 0, 201));
    leads("a name alone as the 60th byte", 301,
        alone(Checks.join(Checks.attribute(200, new int[53]), Checks.ints(201))));
    leads("a value of one, and none there", 301, raw(0, 2, 200, 1));
    leads("a value of one, and none behind the 60th byte", 301,
        alone(Checks.join(Checks.attribute(200, new int[52]), Checks.ints(201, 1))));
    leads("a value of one, and a prefix there", 301, raw(0, 2, 200, 1, 8, 9));
    leads("a value of 255", 301, raw(0, 4, 200, 255, 0, 0));
    leads("a value of 2, to the end", 0, raw(0, 4, 200, 2, 0, 0));
    leads("a value of none, to the end", 0, raw(0, 4, 200, 0, 201, 0));
    leads("before what is wrong of the first one", 301, raw(0, 5, 1, 1, 3, 200, 1));
  }

  private static void oneThenTheNext() {
    leads("6 of the first before 1 of the next", 306, alone(1, 1, 3, 1, 1, 3));
    leads("6 of the first before 2 of the next", 306, alone(1, 1, 3, 6, 0));
    leads("2 of the first before 6 of the next", 302, alone(6, 0, 1, 1, 3));
    leads("5 of the first before 2 of the next", 305, alone(3, 0, 6, 0));
    leads("11 of the first before 5 of the next", 311, alone(2, 1, 0, 3, 0));
    leads("8 before 9", 308, alone(3, 1, 0, 9, 1, 0));
    leads("9 before 8", 309, alone(9, 1, 0, 3, 1, 0));
    leads("11 of CLUSTERS before 6", 311, alone(10, 1, 0, 1, 1, 3));
    leads("1 of the third before 5 of the fourth", 301, alone(4, 1, 0, 128, 0, 4, 2, 0, 0, 1, 0));
  }

  private static void twice() {
    for (int name : NAMES) {
      int[] once = name == 2 || name == 10 ? Checks.ints(name, 0) : Checks.ints(name, 1, 1);
      leads(name + " once", 0, alone(once));
      leads(name + " twice", 301, alone(Checks.join(once, once)));
      leads(name + " twice, the second without its bytes", 301, alone(Checks.join(once, Checks.ints(128, 0, name, 0))));
    }
    for (int name : new int[] {128, 200, 255}) {
      leads(name + " twice", 301, alone(name, 0, name, 0));
      leads(name + " twice, apart", 301, with(Checks.join(Checks.ints(name, 0), GOOD, Checks.ints(name, 2, 1, 1))));
    }
    leads("128 and 0 are not the same", 302, alone(128, 0, 0, 0));
    RouteSpeaker x = Checks.allUp();
    Checks.feed(x, 0, Checks.join(alone(255, 0, 1, 1, 0), alone(255, 0, 1, 1, 0)));
    Checks.same("once in each of two messages", x.session(0, 0), 3);
    for (int name : new int[] {0, 127}) {
      Checks.feed(x, 1, alone(name, 0));
      Checks.sent(x, 1);
      Checks.feed(x, 2, alone(name, 0));
      Checks.ended(name + ", though another message had it", x, 2, 3, 2);
      Checks.up(x, 1, 201, 21);
      Checks.up(x, 2, 202, 22);
      Checks.sent(x, 2);
    }
  }

  private static void noSuchName() {
    for (int name = 0; name <= 128; name++) {
      boolean isOne = name == 128;
      for (int known : NAMES) {
        isOne = isOne || name == known;
      }
      if (!isOne) {
        leads("name " + name, 302, alone(name, 0));
        leads("name " + name + " of one byte", 302, alone(name, 1, 1));
      }
    }
    leads("128 is passed over", 0, alone(128, 1, 1));
    leads("before its length is looked at", 302, alone(Checks.attribute(127, new int[50])));
  }

  private static void otherLength() {
    for (int name : new int[] {1, 3, 4, 5, 9}) {
      for (int count = 0; count <= 3; count++) {
        int[] value = {1, 1, 1};
        leads(count + " bytes for " + name, count == 1 ? 0 : 305,
            alone(Checks.attribute(name, java.util.Arrays.copyOf(value, count))));
      }
      leads("before the value for " + name, 305, alone(name, 2, 255, 255));
    }
    leads("a PATH of 9, before its numbers", 305, alone(Checks.attribute(2, new int[9])));
    leads("a PATH of 8", 311, alone(Checks.attribute(2, new int[8])));
    leads("CLUSTERS of 7, before their numbers", 305, alone(Checks.attribute(10, new int[7])));
    leads("CLUSTERS of 6", 311, alone(Checks.attribute(10, new int[6])));
  }

  private static void otherValue() {
    int[][] dues = {{1, 306, 3, 4, 255}, {3, 308, 0, 7, 251, 255}, {9, 309, 0, 251, 255}};
    int[][] goods = {{1, 0, 1, 2}, {3, 1, 6, 8, 100, 250}, {9, 1, 7, 100, 250}};
    for (int k = 0; k < 3; k++) {
      for (int i = 2; i < dues[k].length; i++) {
        for (int role = 0; role <= 2; role++) {
          Checks.same("name " + dues[k][0] + ", role " + role + ", value " + dues[k][i],
              outcome(role, alone(dues[k][0], 1, dues[k][i])), dues[k][1]);
        }
      }
      for (int i = 1; i < goods[k].length; i++) {
        leads("name " + goods[k][0] + ", value " + goods[k][i], 0, alone(goods[k][0], 1, goods[k][i]));
      }
    }
  }

  private static void noNumber() {
    for (int name : new int[] {2, 10}) {
      int most = name == 2 ? 8 : 6;
      for (int bad : new int[] {0, 251, 255}) {
        for (int place = 0; place < most; place++) {
          int[] value = new int[most];
          java.util.Arrays.fill(value, 1);
          value[place] = bad;
          leads("name " + name + ", " + bad + " at " + place, 311, alone(Checks.attribute(name, value)));
        }
        leads("name " + name + ", " + bad + " alone", 311, alone(name, 1, bad));
      }
      for (int good : new int[] {1, 7, 100, 250}) {
        leads("name " + name + ", " + good + " alone", 0, alone(name, 1, good));
      }
    }
  }

  private static void missing() {
    int[][] parts = {Checks.attribute(1, 0), Checks.path(200), Checks.attribute(3, 30), Checks.attribute(5, 0)};
    for (int role = 0; role <= 2; role++) {
      for (int set = 0; set < 16; set++) {
        int[] attributes = NONE;
        for (int k = 0; k < 4; k++) {
          attributes = (set >> k & 1) == 1 ? Checks.join(attributes, parts[k]) : attributes;
        }
        boolean enough = role == 0 ? (set & 7) == 7 : set == 15;
        Checks.same("role " + role + ", attributes " + set, outcome(role, with(attributes)), enough ? 0 : 303);
        Checks.same("nothing announced", outcome(role, alone(attributes)), 0);
        Checks.same("withdrawn alone", outcome(role, Checks.update(Checks.ints(8, 9), attributes)), 0);
      }
    }
  }

  private static void firstNetwork() {
    for (int first : new int[] {1, 100, 199, 200, 201, 250}) {
      int[] attributes = Checks.inner(0, Checks.path(first, 200), 30, 9);
      Checks.same(first + " first, external", outcome(0, with(attributes)), first == 200 ? 0 : 311);
      Checks.same(first + " first, a client", outcome(1, with(attributes)), 0);
      Checks.same(first + " first, a fellow", outcome(2, with(attributes)), 0);
    }
    int[] empty = Checks.inner(0, Checks.path(), 30, 9);
    Checks.same("an empty one, external", outcome(0, with(empty)), 311);
    Checks.same("an empty one, a client", outcome(1, with(empty)), 0);
    Checks.same("an empty one, a fellow", outcome(2, with(empty)), 0);
    leads("nothing is announced", 0, alone(Checks.outer(0, Checks.path(201), 30)));
    leads("nothing is announced, an empty one", 0, alone(Checks.outer(0, Checks.path(), 30)));
    leads("itself alone", 0, with(GOOD));
    for (int network : new int[] {1, 250}) {
      RouteSpeaker x = new RouteSpeaker();
      x.peer(0, 0, network);
      Checks.up(x, 0, network, 20);
      Checks.sent(x, 0);
      Checks.announce(x, 0, Checks.outer(0, Checks.path(network), 30), 8, 9);
      Checks.same("network " + network + " first", x.session(0, 0), 3);
      Checks.announce(x, 0, Checks.outer(0, Checks.path(), 30), 8, 9);
      Checks.ended("an empty one behind it", x, 0, 3, 11);
    }
  }

  private static void noPrefix() {
    for (int length = 0; length <= 9; length++) {
      int lowest = length == 0 || length == 9 ? 0 : 256 >> length;
      int beyond = length == 9 ? 0 : 128 >> length;
      if (length < 9) {
        leads("withdrawn, length " + length, 0, Checks.update(Checks.ints(length, lowest & 255), NONE));
        leads("announced, length " + length, 0, Checks.update(NONE, GOOD, length, lowest & 255));
        leads("the greatest", 0, Checks.update(NONE, GOOD, length, 255 & 0xFF00 >> length));
      }
      if (length != 8) {
        leads("withdrawn, none of " + length, 310, Checks.update(Checks.ints(length, lowest | beyond), NONE));
        leads("announced, none of " + length, 310, Checks.update(NONE, GOOD, length, lowest | beyond));
        leads("with 1", 310, Checks.update(NONE, GOOD, length, 1));
      }
    }
    leads("withdrawn, length 255", 310, Checks.update(Checks.ints(255, 0), NONE));
    leads("announced, length 255", 310, Checks.update(NONE, GOOD, 255, 0));
    leads("the last of the withdrawn", 310, Checks.update(Checks.ints(8, 1, 8, 2, 9, 0), NONE));
    leads("the first of the withdrawn", 310, Checks.update(Checks.ints(9, 0, 8, 1, 8, 2), NONE));
    leads("the last of the announced", 310, Checks.update(NONE, GOOD, 8, 1, 8, 2, 9, 0));
    leads("the first of the announced", 310, Checks.update(NONE, GOOD, 9, 0, 8, 1, 8, 2));
  }

  private static void tooManyKnown() {
    RouteSpeaker x = Checks.allUp();
    for (int p = 0; p < 4; p++) {
      x.outbound(p, 0, 0, 0);
    }
    for (int i = 0; i < 10; i++) {
      x.originate(8, i);
    }
    Checks.announce(x, 0, GOOD, 8, 10, 8, 11, 8, 10, 8, 0, 8, 11);
    Checks.same("12 would be known", x.session(0, 0) * 100 + x.known(), 312);
    Checks.announce(x, 0, GOOD, 8, 11, 8, 5, 8, 0);
    Checks.same("all of them are known", x.session(0, 0), 3);
    RouteSpeaker z = Checks.allUp();
    Checks.announce(z, 0, GOOD, 8, 0, 8, 1, 8, 2, 8, 3, 8, 4, 8, 5, 8, 6, 8, 7, 8, 8, 8, 9, 8, 10);
    Checks.announce(z, 1, Checks.plain(1), 0, 0, 1, 0);
    Checks.same("two of one address, and another length", z.session(1, 0), 0);
    Checks.announce(z, 2, Checks.plain(2), 0, 0, 0, 0);
    Checks.same("one twice", z.session(2, 0) * 100 + z.known(), 312);
    Checks.announce(z, 3, Checks.join(Checks.plain(3), Checks.attribute(200, 8, 77)), 8, 77);
    Checks.same("what stands in the attributes does not count", z.session(3, 0), 0);
    RouteSpeaker y = Checks.allUp();
    Checks.announce(y, 0, GOOD, 8, 20, 8, 21, 8, 22);
    Checks.announce(y, 1, Checks.plain(1), 8, 23, 8, 24, 8, 25, 8, 26, 8, 27, 8, 28, 8, 29, 8, 30);
    Checks.same("11 are known", y.known(), 11);
    Checks.sent(y, 0);
    Checks.feed(y, 0, Checks.update(Checks.ints(8, 20, 8, 21, 8, 22), GOOD, 8, 20, 8, 31, 8, 32));
    Checks.ended("13 would be", y, 0, 6, 1);
    Checks.same("none of it was taken in", y.known(), 11);
    Checks.same("nor what it withdraws", y.penalty(0, 8, 20), 0.0);
    Checks.same("the others' sessions go on", y.session(1, 0), 3);
  }

  private static void goesAndComes() {
    RouteSpeaker x = Checks.allUp();
    Checks.announce(x, 0, GOOD, 8, 1, 8, 2);
    Checks.announce(x, 1, Checks.outer(0, Checks.path(201, 5), 31), 8, 1, 8, 2);
    Checks.feed(x, 0, Checks.update(Checks.ints(8, 1, 8, 2, 8, 3), Checks.outer(1, Checks.path(200), 40), 8, 2, 8, 3));
    Checks.refused("goes", Checks.NO_ELEMENT, () -> x.flaw(0, 8, 1));
    Checks.same("another peer's does not", x.best(8, 1, 0), 1);
    Checks.row("goes, and comes then", Checks.ints(x.best(8, 2, 0), x.best(8, 2, 4)), 0, 40);
    Checks.row("comes", Checks.ints(x.best(8, 3, 0), x.best(8, 3, 2)), 0, 1);
    Checks.announce(x, 0, GOOD, 8, 2);
    Checks.row("comes in place of the one there", Checks.ints(x.best(8, 2, 2), x.best(8, 2, 4)), 0, 30);
    Checks.feed(x, 0, Checks.update(NONE, GOOD));
    Checks.same("attributes alone change nothing", x.best(8, 3, 2), 1);
  }

  private static void doesNotMatter() {
    RouteSpeaker x = Checks.allUp(0, 0, 1, 0);
    int[] inner = {5, 1, 250, 9, 1, 1, 10, 2, 1, 2};
    Checks.announce(x, 1, Checks.plain(1), 8, 9);
    Checks.announce(x, 0, plus(inner), 8, 9);
    Checks.same("the ID counts, not the SOURCE", x.best(8, 9, 0), 0);
    Checks.row("preference, SOURCE, CLUSTERS", Checks.ints(x.best(8, 9, 1), x.best(8, 9, 6), x.best(8, 9, 7)),
        100, 0, 0);
    Checks.same("no CLUSTER", x.best(8, 9, 16), 0);
    Checks.row("nor is it told", Checks.sent(x, 2), Checks.join(
        Checks.told(Checks.inner(0, Checks.path(201), 31, 100), 8, 9),
        Checks.told(Checks.inner(0, Checks.path(200), 30, 100), 8, 9)));
    Checks.announce(x, 0, plus(5, 1, 0, 9, 1, 7, 10, 1, 7), 8, 9);
    Checks.same("it is not barred", x.flaw(0, 8, 9), 0);
    Checks.same("nor another one", x.penalty(0, 8, 9), 0.0);
    // One of another ID, with more CLUSTERS and a greater SOURCE.
    x.stop(1);
    Checks.up(x, 1, 201, 19);
    Checks.announce(x, 1, Checks.join(Checks.plain(1), Checks.ints(9, 1, 250, 10, 3, 1, 2, 3)), 8, 9);
    Checks.same("the least ID", x.best(8, 9, 0), 1);
  }

  private static void barred() {
    int[] good = Checks.inner(0, Checks.path(200), 30, 9);
    for (int role = 0; role <= 2; role++) {
      RouteSpeaker x = Checks.allUp(role, 0, 0, 0);
      for (int place = 1; place < 8; place++) {
        int[] path = {200, 99, 101, 7, 6, 8, 1, 250};
        Checks.announce(x, 0, Checks.inner(0, Checks.path(path), 30, 9), 8, 9);
        Checks.same("no 100", x.flaw(0, 8, 9), 0);
        path[place] = 100;
        Checks.announce(x, 0, Checks.inner(0, Checks.path(path), 30, 9), 8, place);
        Checks.same("100 at " + place, x.flaw(0, 8, place), 1);
      }
      for (int source : new int[] {6, 7, 8, 100}) {
        Checks.announce(x, 0, Checks.join(good, Checks.ints(9, 1, source)), 8, 10);
        Checks.same("SOURCE " + source, x.flaw(0, 8, 10) & 1, source == 7 && role > 0 ? 1 : 0);
      }
      for (int place = 0; place < 6; place++) {
        int[] clusters = {6, 8, 100, 1, 250, 70};
        clusters[place] = 7;
        Checks.announce(x, 0, Checks.join(good, Checks.attribute(10, clusters)), 8, 11);
        Checks.same("7 in CLUSTERS at " + place, x.flaw(0, 8, 11) & 1, role > 0 ? 1 : 0);
      }
    }
    RouteSpeaker y = Checks.allUp(1, 2, 0, 0);
    Checks.announce(y, 0, Checks.inner(0, Checks.path(100), 30, 9), 8, 9);
    Checks.same("100 alone", y.flaw(0, 8, 9), 1);
    Checks.announce(y, 1, good, 8, 9);
    y.stop(0);
    Checks.up(y, 0, 100, 100);
    Checks.same("the one that is not is the best", y.best(8, 9, 0), 1);
  }
}
