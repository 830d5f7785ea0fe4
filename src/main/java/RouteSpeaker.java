import java.util.NoSuchElementException;

/** A speaker that exchanges routes with up to four peers, as ../shared/DOC.md says. */
public final class RouteSpeaker {
  public static final int NONE = -1;

  private static final int PEERS = 4;
  private static final int OWN = 4;
  private static final int CANDIDATES = 5;
  private static final int OWN_NETWORK = 100;
  private static final int OWN_ID = 7;
  private static final int USUAL_PREFERENCE = 100;

  private static final int MOST_PREFIXES = 12;
  private static final int MOST_RULES = 3;
  private static final int MOST_PADDING = 3;
  private static final int MOST_PATH = 8;
  private static final int MOST_CLUSTERS = 6;
  private static final int LEAST_SIZE = 2;
  private static final int MOST_SIZE = 60;
  private static final int MOST_SENT = 200;

  private static final int EXTERNAL = 0;
  private static final int FELLOW = 2;

  private static final int IDLE = 0;
  private static final int SENT = 1;
  private static final int AGREED = 2;
  private static final int UP = 3;

  private static final int OPEN = 1;
  private static final int UPDATE = 2;
  private static final int NOTIFICATION = 3;
  private static final int KEEPALIVE = 4;

  private static final int ORIGIN = 1;
  private static final int PATH = 2;
  private static final int NEXT = 3;
  private static final int METRIC = 4;
  private static final int PREFERENCE = 5;
  private static final int SOURCE = 9;
  private static final int CLUSTERS = 10;
  private static final int FIRST_PASSED_OVER = 128;

  private final Prefixes prefixes = new Prefixes();
  private final Peer[] peers = new Peer[PEERS];
  private final Route own = new Route();
  private final Update update = new Update();
  private final Choice choice = new Choice();
  private final Letter letter = new Letter();

  public RouteSpeaker() {
    for (int p = 0; p < PEERS; p++) {
      peers[p] = new Peer(200 + p);
    }
    own.next = OWN_ID;
  }

  public void peer(int p, int role, int network) throws IllegalArgumentException, IllegalStateException {
    if (!isPeer(p) || role < EXTERNAL || role > FELLOW) {
      throw new IllegalArgumentException();
    }
    boolean external = role == EXTERNAL;
    if (external && (!isNumber(network) || network == OWN_NETWORK)) {
      throw new IllegalArgumentException();
    }
    if (!peers[p].isIdle()) {
      throw new IllegalStateException();
    }
    peers[p].role = role;
    peers[p].network = external ? network : OWN_NETWORK;
  }

  public void rule(int p, int length, int address, int action)
      throws IllegalArgumentException, IllegalStateException {
    if (!isPeer(p) || !isPrefix(length, address) || action < 0 || action > 200) {
      throw new IllegalArgumentException();
    }
    if (!peers[p].rules.add(length, address, action)) {
      throw new IllegalStateException();
    }
    tellAll();
  }

  public void unrule(int p) throws IllegalArgumentException {
    if (!isPeer(p)) {
      throw new IllegalArgumentException();
    }
    peers[p].rules.clear();
    tellAll();
  }

  public void outbound(int p, int padding, int length, int address) throws IllegalArgumentException {
    if (!isPeer(p) || padding < 0 || padding > MOST_PADDING) {
      throw new IllegalArgumentException();
    }
    if (length != NONE && !isPrefix(length, address)) {
      throw new IllegalArgumentException();
    }
    peers[p].padding = padding;
    peers[p].muteLength = length;
    peers[p].muteAddress = address;
    tellAll();
  }

  public boolean originate(int length, int address) throws IllegalArgumentException, IllegalStateException {
    if (!isPrefix(length, address)) {
      throw new IllegalArgumentException();
    }
    int i = prefixes.learn(length, address);
    if (i == NONE) {
      throw new IllegalStateException();
    }
    if (prefixes.originated[i]) {
      return false;
    }
    prefixes.originated[i] = true;
    tellAll();
    return true;
  }

  public boolean retract(int length, int address) throws IllegalArgumentException {
    if (!isPrefix(length, address)) {
      throw new IllegalArgumentException();
    }
    int i = prefixes.find(length, address);
    if (i == NONE || !prefixes.originated[i]) {
      return false;
    }
    prefixes.originated[i] = false;
    tellAll();
    return true;
  }

  public boolean start(int p) throws IllegalArgumentException {
    if (!isPeer(p)) {
      throw new IllegalArgumentException();
    }
    if (!peers[p].isIdle()) {
      return false;
    }
    peers[p].open();
    tellAll();
    return true;
  }

  public boolean stop(int p) throws IllegalArgumentException {
    if (!isPeer(p)) {
      throw new IllegalArgumentException();
    }
    if (peers[p].isIdle()) {
      return false;
    }
    peers[p].end(6, 2);
    tellAll();
    return true;
  }

  public boolean feed(int p, long bytes, int n) throws IllegalArgumentException {
    if (!isPeer(p) || n < 1 || n > 8) {
      throw new IllegalArgumentException();
    }
    Peer peer = peers[p];
    if (peer.isIdle()) {
      return false;
    }
    for (int i = n - 1; i >= 0; i--) {
      if (peer.takeByte((int) (bytes >>> (8 * i)) & 255)) {
        peer.lookAtMessage(update, prefixes);
        tellAll();
      }
    }
    return true;
  }

  public int take(int p) throws IllegalArgumentException, NoSuchElementException {
    if (!isPeer(p)) {
      throw new IllegalArgumentException();
    }
    int first = peers[p].outbox.pull();
    if (first == NONE) {
      throw new NoSuchElementException();
    }
    return first;
  }

  public int tick() {
    for (int p = 0; p < PEERS; p++) {
      peers[p].passTime();
    }
    for (int p = 0; p < PEERS; p++) {
      peers[p].incoming.decay();
    }
    tellAll();
    int up = 0;
    for (int p = 0; p < PEERS; p++) {
      up += peers[p].isUp() ? 1 : 0;
    }
    return up;
  }

  public int session(int p, int what) {
    if (!isPeer(p)) {
      return NONE;
    }
    Peer peer = peers[p];
    switch (what) {
      case 0: return peer.state;
      case 1: return peer.holdTimer;
      case 2: return peer.keepTimer;
      case 3: return peer.hold;
      case 4: return peer.id;
      case 5: return peer.outbox.count;
      case 6: return peer.come;
      default: return NONE;
    }
  }

  public int best(int length, int address, int what) throws IllegalArgumentException, NoSuchElementException {
    if (!isPrefix(length, address) || what < 0 || what > 21) {
      throw new IllegalArgumentException();
    }
    int i = prefixes.find(length, address);
    int who = chooseFor(i);
    if (who == NONE) {
      throw new NoSuchElementException();
    }
    switch (what) {
      case 0: return who;
      case 1: return preferenceOf(who, i);
      default: return routeOf(who, i).detail(what);
    }
  }

  public int flaw(int p, int length, int address) throws IllegalArgumentException, NoSuchElementException {
    if (!isPeer(p) || !isPrefix(length, address)) {
      throw new IllegalArgumentException();
    }
    int i = prefixes.find(length, address);
    if (!peers[p].incoming.has(i)) {
      throw new NoSuchElementException();
    }
    return flawsOf(p, i);
  }

  public double penalty(int p, int length, int address) throws IllegalArgumentException {
    if (!isPeer(p) || !isPrefix(length, address)) {
      throw new IllegalArgumentException();
    }
    return peers[p].incoming.penaltyAt(prefixes.find(length, address));
  }

  public int forward(int address) throws IllegalArgumentException, NoSuchElementException {
    if (address < 0 || address > 255) {
      throw new IllegalArgumentException();
    }
    int longest = NONE;
    int found = NONE;
    for (int i = 0; i < prefixes.count; i++) {
      int length = prefixes.lengths[i];
      if (length > longest && isWithin(8, address, length, prefixes.addresses[i])) {
        int who = chooseFor(i);
        if (who != NONE) {
          longest = length;
          found = who;
        }
      }
    }
    if (found == NONE) {
      throw new NoSuchElementException();
    }
    return found;
  }

  public int known() {
    return prefixes.count;
  }

  private static boolean isPeer(int p) {
    return p >= 0 && p < PEERS;
  }

  private static boolean isNumber(int number) {
    return number >= 1 && number <= 250;
  }

  private static boolean isPrefix(int length, int address) {
    return length >= 0 && length <= 8 && address >= 0 && address <= 255
        && (address & (255 >> length)) == 0;
  }

  private static boolean isWithin(int length, int address, int outerLength, int outerAddress) {
    return length >= outerLength && (address ^ outerAddress) <= (255 >> outerLength);
  }

  private Route routeOf(int who, int i) {
    return who == OWN ? own : peers[who].incoming.routes[i];
  }

  private int preferenceOf(int who, int i) {
    int action = who == OWN ? NONE : peers[who].rules.actionFor(prefixes.lengths[i], prefixes.addresses[i]);
    return action == NONE ? routeOf(who, i).preference : action;
  }

  private int flawsOf(int p, int i) {
    Incoming incoming = peers[p].incoming;
    return (incoming.routes[i].isBarred() ? 1 : 0)
        + (incoming.damped[i] ? 2 : 0)
        + (peers[p].rules.actionFor(prefixes.lengths[i], prefixes.addresses[i]) == 0 ? 4 : 0);
  }

  private boolean isInternal(int who) {
    return who != OWN && peers[who].role != EXTERNAL;
  }

  /** Who has the best route to a prefix: a peer, OWN, or NONE. */
  private int chooseFor(int i) {
    if (i == NONE) {
      return NONE;
    }
    choice.clear();
    for (int p = 0; p < PEERS; p++) {
      if (peers[p].incoming.has(i) && flawsOf(p, i) == 0) {
        choice.offer(p, peers[p].incoming.routes[i], preferenceOf(p, i), isInternal(p), peers[p].id);
      }
    }
    if (prefixes.originated[i]) {
      choice.offer(OWN, own, own.preference, false, OWN_ID);
    }
    return choice.winner();
  }

  private void tellAll() {
    // Every round but the last one closes a session, and none comes up meanwhile.
    for (int round = 0; round <= PEERS; round++) {
      if (tellRound()) {
        return;
      }
    }
  }

  /** False as soon as a session is closed by it. */
  private boolean tellRound() {
    for (int i = 0; i < prefixes.count; i++) {
      int who = chooseFor(i);
      letter.setPrefix(prefixes.lengths[i], prefixes.addresses[i]);
      for (int p = 0; p < PEERS; p++) {
        if (peers[p].isUp() && !tell(p, i, who)) {
          return false;
        }
      }
    }
    return true;
  }

  /** False when the session is closed by it. */
  private boolean tell(int p, int i, int who) {
    Peer peer = peers[p];
    boolean due = isMeantFor(p, i, who);
    if (due && peer.role == EXTERNAL) {
      due = letter.writeOutward(routeOf(who, i), peer.padding);
    } else if (due) {
      due = letter.writeInward(routeOf(who, i), preferenceOf(who, i), isInternal(who) ? peers[who].id : NONE);
    }
    return due ? peer.announce(i, letter) : peer.withdraw(i, letter);
  }

  private boolean isMeantFor(int p, int i, int who) {
    if (who == NONE || who == p) {
      return false;
    }
    if (who != OWN && peers[who].role == FELLOW && peers[p].role == FELLOW) {
      return false;
    }
    return !peers[p].isMuteFor(prefixes.lengths[i], prefixes.addresses[i]);
  }

  /** The prefixes that are known, in the order in which they came to be, and which are originated. */
  static final class Prefixes {
    final int[] lengths = new int[MOST_PREFIXES];
    final int[] addresses = new int[MOST_PREFIXES];
    final boolean[] originated = new boolean[MOST_PREFIXES];
    int count;

    int find(int length, int address) {
      for (int i = 0; i < count; i++) {
        if (lengths[i] == length && addresses[i] == address) {
          return i;
        }
      }
      return NONE;
    }

    /** Where the prefix stands; NONE when it is not known and there is no room. */
    int learn(int length, int address) {
      int i = find(length, address);
      if (i != NONE || count >= MOST_PREFIXES) {
        return i;
      }
      lengths[count] = length;
      addresses[count] = address;
      count++;
      return count - 1;
    }
  }

  /** The rules of a peer for what comes in. */
  static final class Rules {
    private final int[] lengths = new int[MOST_RULES];
    private final int[] addresses = new int[MOST_RULES];
    private final int[] actions = new int[MOST_RULES];
    private int count;

    boolean add(int length, int address, int action) {
      if (count >= MOST_RULES) {
        return false;
      }
      lengths[count] = length;
      addresses[count] = address;
      actions[count] = action;
      count++;
      return true;
    }

    void clear() {
      count = 0;
    }

    /** The action of the first rule that counts, or NONE. */
    int actionFor(int length, int address) {
      for (int i = 0; i < count; i++) {
        if (isWithin(length, address, lengths[i], addresses[i])) {
          return actions[i];
        }
      }
      return NONE;
    }
  }

  /** What is sent to a peer and not taken yet. */
  static final class Outbox {
    private final int[] bytes = new int[MOST_SENT];
    private int first;
    int count;

    /** False when there is no room for the whole message. */
    boolean put(int[] message, int size) {
      if (size < 0 || size > message.length || count + size > MOST_SENT) {
        return false;
      }
      for (int i = 0; i < size; i++) {
        bytes[(first + count) % MOST_SENT] = message[i];
        count++;
      }
      return true;
    }

    int pull() {
      if (count == 0) {
        return NONE;
      }
      int taken = bytes[first];
      first = (first + 1) % MOST_SENT;
      count--;
      return taken;
    }
  }

  /** The attributes of a route. */
  static final class Route {
    int origin;
    int pathLength;
    final int[] path = new int[MOST_PATH];
    int next;
    int metric = NONE;
    int preference = USUAL_PREFERENCE;
    int source;
    int clusterCount;
    final int[] clusters = new int[MOST_CLUSTERS];

    void clear() {
      origin = 0;
      pathLength = 0;
      next = 0;
      metric = NONE;
      dropInner();
    }

    /** Takes away what does not matter of an external peer's route. */
    void dropInner() {
      preference = USUAL_PREFERENCE;
      source = 0;
      clusterCount = 0;
    }

    void copyFrom(Route other) {
      origin = other.origin;
      pathLength = other.pathLength;
      System.arraycopy(other.path, 0, path, 0, MOST_PATH);
      next = other.next;
      metric = other.metric;
      preference = other.preference;
      source = other.source;
      clusterCount = other.clusterCount;
      System.arraycopy(other.clusters, 0, clusters, 0, MOST_CLUSTERS);
    }

    boolean isSameAs(Route other) {
      return origin == other.origin && next == other.next && metric == other.metric
          && preference == other.preference && source == other.source
          && pathLength == other.pathLength && startSame(path, other.path, pathLength)
          && clusterCount == other.clusterCount && startSame(clusters, other.clusters, clusterCount);
    }

    boolean isBarred() {
      return source == OWN_ID || startHas(path, pathLength, OWN_NETWORK)
          || startHas(clusters, clusterCount, OWN_ID);
    }

    int firstNetwork() {
      return pathLength > 0 ? path[0] : 0;
    }

    int sourceOr(int id) {
      return source != 0 ? source : id;
    }

    /** What best() answers for 2 and more. */
    int detail(int what) {
      switch (what) {
        case 2: return origin;
        case 3: return pathLength;
        case 4: return next;
        case 5: return metric;
        case 6: return source;
        case 7: return clusterCount;
        default: return what < 16 ? itemOf(path, pathLength, what - 8) : itemOf(clusters, clusterCount, what - 16);
      }
    }

    private static int itemOf(int[] list, int count, int i) {
      return i >= 0 && i < count && i < list.length ? list[i] : 0;
    }

    private static boolean startSame(int[] one, int[] other, int count) {
      for (int i = 0; i < count; i++) {
        if (one[i] != other[i]) {
          return false;
        }
      }
      return true;
    }

    private static boolean startHas(int[] list, int count, int wanted) {
      for (int i = 0; i < count; i++) {
        if (list[i] == wanted) {
          return true;
        }
      }
      return false;
    }
  }

  /** The tests for the best route, in their order: of each one the least measure goes on. */
  static final class Choice {
    private static final int TESTS = 7;
    private static final int METRIC_TEST = 3;

    private final int[][] measures = new int[TESTS][CANDIDATES];
    private final int[] firstNetworks = new int[CANDIDATES];
    private final boolean[] left = new boolean[CANDIDATES];

    void clear() {
      for (int who = 0; who < CANDIDATES; who++) {
        left[who] = false;
      }
    }

    void offer(int who, Route route, int preference, boolean internal, int id) {
      left[who] = true;
      firstNetworks[who] = route.firstNetwork();
      measures[0][who] = -preference;
      measures[1][who] = route.pathLength;
      measures[2][who] = route.origin;
      measures[METRIC_TEST][who] = route.metric == NONE ? 0 : route.metric;
      measures[4][who] = internal ? 1 : 0;
      measures[5][who] = route.sourceOr(id);
      measures[6][who] = route.clusterCount;
    }

    int winner() {
      for (int test = 0; test < TESTS; test++) {
        dropBeaten(test);
      }
      if (left[OWN]) {
        return OWN;
      }
      for (int p = 0; p < PEERS; p++) {
        if (left[p]) {
          return p;
        }
      }
      return NONE;
    }

    // One that is dropped is missed by none of those looked at later: what beat it beats them, too.
    private void dropBeaten(int test) {
      for (int who = 0; who < CANDIDATES; who++) {
        left[who] = left[who] && !isBeaten(test, who);
      }
    }

    private boolean isBeaten(int test, int who) {
      for (int other = 0; other < CANDIDATES; other++) {
        if (left[other] && measures[test][other] < measures[test][who]
            && (test != METRIC_TEST || firstNetworks[other] == firstNetworks[who])) {
          return true;
        }
      }
      return false;
    }
  }

  /** An UPDATE about one prefix that is being written. */
  static final class Letter {
    private static final int FIRST_ATTRIBUTE = 4;

    final int[] bytes = new int[MOST_SIZE];
    int size;
    private int length;
    private int address;

    void setPrefix(int newLength, int newAddress) {
      length = newLength;
      address = newAddress;
    }

    /** Announces a route to an external peer; false when its PATH would be too long. */
    boolean writeOutward(Route route, int padding) {
      int times = 1 + padding;
      if (route.pathLength + times > MOST_PATH) {
        return false;
      }
      begin(0);
      add(0);
      addValue(ORIGIN, route.origin);
      addList(PATH, OWN_NETWORK, times, route.path, route.pathLength);
      addValue(NEXT, OWN_ID);
      endAnnouncement();
      return true;
    }

    /** Announces a route, for an internal one with its peer's ID, else NONE; false when it has too many CLUSTERS. */
    boolean writeInward(Route route, int preference, int id) {
      boolean reflected = id != NONE;
      if (reflected && route.clusterCount + 1 > MOST_CLUSTERS) {
        return false;
      }
      begin(0);
      add(0);
      addValue(ORIGIN, route.origin);
      addList(PATH, 0, 0, route.path, route.pathLength);
      addValue(NEXT, route.next);
      if (route.metric != NONE) {
        addValue(METRIC, route.metric);
      }
      addValue(PREFERENCE, preference);
      if (reflected) {
        addValue(SOURCE, route.sourceOr(id));
        addList(CLUSTERS, OWN_ID, 1, route.clusters, route.clusterCount);
      }
      endAnnouncement();
      return true;
    }

    void writeWithdrawal() {
      begin(1);
      add(length);
      add(address);
      add(0);
      bytes[0] = size;
    }

    // The size of it, and of its attributes, is put in when all is written.
    private void begin(int withdrawn) {
      bytes[1] = UPDATE;
      bytes[2] = withdrawn;
      size = 3;
    }

    private void endAnnouncement() {
      bytes[FIRST_ATTRIBUTE - 1] = size - FIRST_ATTRIBUTE;
      add(length);
      add(address);
      bytes[0] = size;
    }

    private void addValue(int name, int value) {
      add(name);
      add(1);
      add(value);
    }

    private void addList(int name, int before, int times, int[] list, int count) {
      add(name);
      add(times + count);
      for (int i = 0; i < times; i++) {
        add(before);
      }
      for (int i = 0; i < count && i < list.length; i++) {
        add(list[i]);
      }
    }

    private void add(int value) {
      if (size < MOST_SIZE) {
        bytes[size] = value;
        size++;
      }
    }
  }

  /** An UPDATE that came in: its tests, and what it says. */
  static final class Update {
    private static final int FIRST_WITHDRAWN = 3;

    final Route route = new Route();
    private final boolean[] seen = new boolean[256];
    private int[] message = new int[MOST_SIZE];
    private int size;
    int withdrawn;
    int announced;
    private int attributesFrom;
    private int attributesTo;

    /** The subcode of the first fault, or 0. */
    int faultOf(int[] bytes, int count, boolean external, int network) {
      message = bytes;
      size = count;
      clear();
      if (!isFramed()) {
        return 1;
      }
      int fault = 0;
      for (int at = attributesFrom; at + 1 < attributesTo && fault == 0; at += 2 + message[at + 1]) {
        fault = attributeFault(message[at], message[at + 1], at + 2);
      }
      if (fault == 0 && announced > 0) {
        fault = announcementFault(external, network);
      }
      if (fault == 0 && !hasOnlyPrefixes()) {
        fault = 10;
      }
      if (external) {
        route.dropInner();
      }
      return fault;
    }

    int withdrawnAt(int k) {
      return FIRST_WITHDRAWN + 2 * k;
    }

    int announcedAt(int k) {
      return attributesTo + 2 * k;
    }

    /** How many prefixes would be known behind this message. */
    int countKnown(Prefixes prefixes) {
      int count = prefixes.count;
      for (int k = 0; k < announced; k++) {
        int at = announcedAt(k);
        if (prefixes.find(message[at], message[at + 1]) == NONE && isFirstOfItsKind(k)) {
          count++;
        }
      }
      return count;
    }

    private boolean isFirstOfItsKind(int k) {
      int at = announcedAt(k);
      for (int j = 0; j < k; j++) {
        int before = announcedAt(j);
        if (message[before] == message[at] && message[before + 1] == message[at + 1]) {
          return false;
        }
      }
      return true;
    }

    private void clear() {
      route.clear();
      for (int name = 0; name < seen.length; name++) {
        seen[name] = false;
      }
    }

    /** Whether all that is counted lies where it should. */
    private boolean isFramed() {
      withdrawn = message[2];
      int counter = FIRST_WITHDRAWN + 2 * withdrawn;
      if (counter >= size) {
        return false;
      }
      attributesFrom = counter + 1;
      attributesTo = attributesFrom + message[counter];
      if (attributesTo > size || (size - attributesTo) % 2 != 0) {
        return false;
      }
      announced = (size - attributesTo) / 2;
      int at = attributesFrom;
      while (at + 1 < attributesTo) {
        at += 2 + message[at + 1];
      }
      return at == attributesTo;
    }

    private int attributeFault(int name, int length, int at) {
      if (seen[name]) {
        return 1;
      }
      seen[name] = true;
      if (name >= FIRST_PASSED_OVER) {
        return 0;
      }
      switch (name) {
        case PATH:
          route.pathLength = Math.min(length, MOST_PATH);
          return listFault(length, at, route.path);
        case CLUSTERS:
          route.clusterCount = Math.min(length, MOST_CLUSTERS);
          return listFault(length, at, route.clusters);
        case ORIGIN:
        case NEXT:
        case METRIC:
        case PREFERENCE:
        case SOURCE:
          return length != 1 ? 5 : valueFault(name, message[at]);
        default:
          return 2;
      }
    }

    private int valueFault(int name, int value) {
      switch (name) {
        case ORIGIN:
          route.origin = value;
          return value <= 2 ? 0 : 6;
        case NEXT:
          route.next = value;
          return isNumber(value) && value != OWN_ID ? 0 : 8;
        case METRIC:
          route.metric = value;
          return 0;
        case PREFERENCE:
          route.preference = value;
          return 0;
        default:
          route.source = value;
          return isNumber(value) ? 0 : 9;
      }
    }

    private int listFault(int length, int at, int[] list) {
      if (length > list.length) {
        return 5;
      }
      int fault = 0;
      for (int i = 0; i < length; i++) {
        list[i] = message[at + i];
        fault = isNumber(list[i]) ? fault : 11;
      }
      return fault;
    }

    private int announcementFault(boolean external, int network) {
      if (!seen[ORIGIN] || !seen[PATH] || !seen[NEXT] || (!external && !seen[PREFERENCE])) {
        return 3;
      }
      return external && route.firstNetwork() != network ? 11 : 0;
    }

    private boolean hasOnlyPrefixes() {
      boolean good = true;
      for (int k = 0; k < withdrawn; k++) {
        int at = withdrawnAt(k);
        good = good && isPrefix(message[at], message[at + 1]);
      }
      for (int k = 0; k < announced; k++) {
        int at = announcedAt(k);
        good = good && isPrefix(message[at], message[at + 1]);
      }
      return good;
    }
  }

  /** The routes that are there from a peer, and its penalties, by the place of their prefixes. */
  static final class Incoming {
    final Route[] routes = new Route[MOST_PREFIXES];
    final boolean[] damped = new boolean[MOST_PREFIXES];
    final boolean[] there = new boolean[MOST_PREFIXES];
    private final double[] penalties = new double[MOST_PREFIXES];

    Incoming() {
      for (int i = 0; i < MOST_PREFIXES; i++) {
        routes[i] = new Route();
      }
    }

    boolean has(int i) {
      return i >= 0 && i < MOST_PREFIXES && there[i];
    }

    double penaltyAt(int i) {
      return i >= 0 && i < MOST_PREFIXES ? penalties[i] : 0.0;
    }

    void withdraw(int i) {
      if (has(i)) {
        there[i] = false;
        grow(i, 1000.0);
      }
    }

    void announce(int i, Route route) {
      if (i < 0 || i >= MOST_PREFIXES) {
        return;
      }
      boolean changes = there[i] && !routes[i].isSameAs(route);
      there[i] = true;
      routes[i].copyFrom(route);
      if (changes) {
        grow(i, 500.0);
      }
    }

    void decay() {
      for (int i = 0; i < MOST_PREFIXES; i++) {
        penalties[i] = penalties[i] * 0.875;
        damped[i] = damped[i] && penalties[i] >= 750.0;
      }
    }

    private void grow(int i, double more) {
      penalties[i] = penalties[i] + more;
      damped[i] = damped[i] || penalties[i] > 2000.0;
    }
  }

  /** A peer: what is set for it, its session, what came from it and what it was told. */
  static final class Peer {
    private static final int FIRST_HOLD_TIMER = 8;
    private static final int OWN_HOLD = 9;
    private static final int VERSION = 4;
    private static final int SIZE_OF_OPEN = 6;
    private static final int SIZE_OF_NOTIFICATION = 4;
    private static final int SIZE_OF_KEEPALIVE = 2;
    private static final int LEAST_SIZE_OF_UPDATE = 4;
    private static final int MOST_TOLD = 40;

    int role;
    int network;
    int padding;
    int muteLength = NONE;
    int muteAddress;
    final Rules rules = new Rules();

    int state;
    int holdTimer;
    int keepTimer;
    int hold;
    int id;
    int come;
    private final int[] inbox = new int[MOST_SIZE];
    final Outbox outbox = new Outbox();
    private final int[] draft = new int[SIZE_OF_OPEN];

    final Incoming incoming = new Incoming();
    // By the place of its prefix the last UPDATE that stands; its first byte is 0 when there is none.
    private final int[][] told = new int[MOST_PREFIXES][MOST_TOLD];

    Peer(int network) {
      this.network = network;
    }

    boolean isIdle() {
      return state == IDLE;
    }

    boolean isUp() {
      return state == UP;
    }

    boolean isMuteFor(int length, int address) {
      return muteLength != NONE && isWithin(length, address, muteLength, muteAddress);
    }

    void open() {
      state = SENT;
      holdTimer = FIRST_HOLD_TIMER;
      draft[0] = SIZE_OF_OPEN;
      draft[1] = OPEN;
      draft[2] = VERSION;
      draft[3] = OWN_NETWORK;
      draft[4] = OWN_HOLD;
      draft[5] = OWN_ID;
      send(draft, SIZE_OF_OPEN);
    }

    void end(int code, int subcode) {
      draft[0] = SIZE_OF_NOTIFICATION;
      draft[1] = NOTIFICATION;
      draft[2] = code;
      draft[3] = subcode;
      send(draft, SIZE_OF_NOTIFICATION);
      close();
    }

    /** True when a message is to be looked at; what comes when the session is idle is lost. */
    boolean takeByte(int value) {
      if (state == IDLE || come >= MOST_SIZE) {
        return false;
      }
      inbox[come] = value;
      come++;
      return inbox[0] < LEAST_SIZE || inbox[0] > MOST_SIZE || come == inbox[0];
    }

    void lookAtMessage(Update update, Prefixes prefixes) {
      int size = inbox[0];
      int type = inbox[1];
      come = 0;
      if (size < LEAST_SIZE || size > MOST_SIZE) {
        end(1, 2);
      } else if (type < OPEN || type > KEEPALIVE) {
        end(1, 3);
      } else if (!isSizeOf(type, size)) {
        end(1, 2);
      } else if (type == NOTIFICATION) {
        close();
      } else if (state == SENT) {
        lookWhenSent(type);
      } else if (state == AGREED) {
        lookWhenAgreed(type);
      } else {
        lookWhenUp(type, update, prefixes);
      }
    }

    void passTime() {
      if (state == IDLE || (state != SENT && hold == 0)) {
        return;
      }
      holdTimer--;
      if (holdTimer <= 0) {
        end(4, 0);
      } else if (state == UP) {
        keepTimer--;
        if (keepTimer <= 0) {
          keepTimer = hold / 3;
          sendKeepalive();
        }
      }
    }

    /** Announces what it was not told yet; false when the session is closed by that. */
    boolean announce(int i, Letter letter) {
      if (isTold(i, letter)) {
        return true;
      }
      for (int k = 0; k < letter.size && k < MOST_TOLD; k++) {
        told[i][k] = letter.bytes[k];
      }
      return send(letter.bytes, letter.size);
    }

    /** Withdraws what it was told; false when the session is closed by that. */
    boolean withdraw(int i, Letter letter) {
      if (told[i][0] == 0) {
        return true;
      }
      told[i][0] = 0;
      letter.writeWithdrawal();
      return send(letter.bytes, letter.size);
    }

    private boolean isTold(int i, Letter letter) {
      for (int k = 0; k < letter.size && k < MOST_TOLD; k++) {
        if (told[i][k] != letter.bytes[k]) {
          return false;
        }
      }
      return true;
    }

    /** False when there is no room for it, and the session is closed. */
    private boolean send(int[] message, int size) {
      boolean sent = outbox.put(message, size);
      if (!sent) {
        close();
      }
      return sent;
    }

    private void sendKeepalive() {
      draft[0] = SIZE_OF_KEEPALIVE;
      draft[1] = KEEPALIVE;
      send(draft, SIZE_OF_KEEPALIVE);
    }

    private void close() {
      state = IDLE;
      holdTimer = 0;
      keepTimer = 0;
      hold = 0;
      id = 0;
      come = 0;
      for (int i = 0; i < MOST_PREFIXES; i++) {
        incoming.there[i] = false;
        told[i][0] = 0;
      }
    }

    private static boolean isSizeOf(int type, int size) {
      switch (type) {
        case OPEN: return size == SIZE_OF_OPEN;
        case UPDATE: return size >= LEAST_SIZE_OF_UPDATE;
        case NOTIFICATION: return size == SIZE_OF_NOTIFICATION;
        default: return size == SIZE_OF_KEEPALIVE;
      }
    }

    private void lookWhenSent(int type) {
      if (type != OPEN) {
        end(5, 1);
        return;
      }
      int time = inbox[4];
      if (inbox[2] != VERSION) {
        end(2, 1);
      } else if (inbox[3] != network) {
        end(2, 2);
      } else if (!isNumber(inbox[5]) || inbox[5] == OWN_ID) {
        end(2, 3);
      } else if (time == 1 || time == 2) {
        end(2, 6);
      } else {
        hold = Math.min(OWN_HOLD, time);
        id = inbox[5];
        state = AGREED;
        holdTimer = hold;
        sendKeepalive();
      }
    }

    private void lookWhenAgreed(int type) {
      if (type != KEEPALIVE) {
        end(5, 2);
        return;
      }
      state = UP;
      holdTimer = hold;
      keepTimer = hold / 3;
    }

    private void lookWhenUp(int type, Update update, Prefixes prefixes) {
      if (type == OPEN) {
        end(5, 3);
        return;
      }
      holdTimer = hold;
      if (type != UPDATE) {
        return;
      }
      int fault = update.faultOf(inbox, inbox[0], role == EXTERNAL, network);
      if (fault != 0) {
        end(3, fault);
      } else if (update.countKnown(prefixes) > MOST_PREFIXES) {
        end(6, 1);
      } else {
        takeIn(update, prefixes);
      }
    }

    private void takeIn(Update update, Prefixes prefixes) {
      for (int k = 0; k < update.withdrawn; k++) {
        int at = update.withdrawnAt(k);
        incoming.withdraw(prefixes.find(inbox[at], inbox[at + 1]));
      }
      for (int k = 0; k < update.announced; k++) {
        int at = update.announcedAt(k);
        incoming.announce(prefixes.learn(inbox[at], inbox[at + 1]), update.route);
      }
    }
  }
}
