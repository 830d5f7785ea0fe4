import java.util.ArrayList;
import java.util.Arrays;
import java.util.Collections;
import java.util.HashMap;
import java.util.HashSet;
import java.util.LinkedHashSet;
import java.util.List;
import java.util.Map;
import java.util.NoSuchElementException;
import java.util.Set;
import java.util.TreeMap;
import java.util.function.ToIntFunction;

/** The document once more, written another way: with maps and lists, and with no care for speed. */
final class Model {
  /** A route: its attributes by name, only those that matter, and whose it is. */
  static final class Entry {
    final TreeMap<Integer, List<Integer>> values = new TreeMap<>();
    int from;

    int one(int name, int without) {
      return values.containsKey(name) ? values.get(name).get(0) : without;
    }

    List<Integer> many(int name) {
      return values.getOrDefault(name, Collections.emptyList());
    }
  }

  static final class Neighbour {
    int role;
    int network;
    int state;
    int holdTimer;
    int keepTimer;
    int hold;
    int id;
    int padding;
    List<Integer> mute;
    final List<Integer> in = new ArrayList<>();
    final List<Integer> out = new ArrayList<>();
    final List<int[]> rules = new ArrayList<>();
    final Map<List<Integer>, Entry> routes = new HashMap<>();
    final Map<List<Integer>, Double> penalties = new HashMap<>();
    final Set<List<Integer>> damped = new HashSet<>();
    final Map<List<Integer>, TreeMap<Integer, List<Integer>>> told = new HashMap<>();
  }

  private final Set<List<Integer>> known = new LinkedHashSet<>();
  private final Set<List<Integer>> originated = new HashSet<>();
  private final Neighbour[] all = new Neighbour[4];

  Model() {
    for (int p = 0; p < 4; p++) {
      all[p] = new Neighbour();
      all[p].network = 200 + p;
    }
  }

  // ---- the face

  void peer(int p, int role, int network) {
    argument(p >= 0 && p <= 3 && role >= 0 && role <= 2);
    argument(role > 0 || (number(network) && network != 100));
    state(all[p].state == 0);
    all[p].role = role;
    all[p].network = role == 0 ? network : 100;
  }

  void rule(int p, int length, int address, int action) {
    argument(p >= 0 && p <= 3 && prefix(length, address) && action >= 0 && action <= 200);
    state(all[p].rules.size() < 3);
    all[p].rules.add(new int[] {length, address, action});
    tellAll();
  }

  void unrule(int p) {
    argument(p >= 0 && p <= 3);
    all[p].rules.clear();
    tellAll();
  }

  void outbound(int p, int padding, int length, int address) {
    argument(p >= 0 && p <= 3 && padding >= 0 && padding <= 3);
    argument(length == -1 || prefix(length, address));
    all[p].padding = padding;
    all[p].mute = length == -1 ? null : List.of(length, address);
    tellAll();
  }

  boolean originate(int length, int address) {
    argument(prefix(length, address));
    List<Integer> prefix = List.of(length, address);
    state(known.contains(prefix) || known.size() < 12);
    known.add(prefix);
    boolean answer = originated.add(prefix);
    tellAll();
    return answer;
  }

  boolean retract(int length, int address) {
    argument(prefix(length, address));
    boolean answer = originated.remove(List.of(length, address));
    tellAll();
    return answer;
  }

  boolean start(int p) {
    argument(p >= 0 && p <= 3);
    if (all[p].state != 0) {
      return false;
    }
    all[p].state = 1;
    all[p].holdTimer = 8;
    send(all[p], 1, 4, 100, 9, 7);
    tellAll();
    return true;
  }

  boolean stop(int p) {
    argument(p >= 0 && p <= 3);
    if (all[p].state == 0) {
      return false;
    }
    end(all[p], 6, 2);
    tellAll();
    return true;
  }

  boolean feed(int p, long bytes, int n) {
    argument(p >= 0 && p <= 3 && n >= 1 && n <= 8);
    Neighbour peer = all[p];
    if (peer.state == 0) {
      return false;
    }
    for (int i = n - 1; i >= 0; i--) {
      if (peer.state == 0) {
        continue;
      }
      peer.in.add((int) (bytes >> 8 * i & 0xFF));
      int size = peer.in.get(0);
      if (size < 2 || size > 60 || peer.in.size() == size) {
        List<Integer> message = new ArrayList<>(peer.in);
        peer.in.clear();
        look(peer, p, message);
        tellAll();
      }
    }
    tellAll();
    return true;
  }

  int take(int p) {
    argument(p >= 0 && p <= 3);
    element(!all[p].out.isEmpty());
    return all[p].out.remove(0);
  }

  int tick() {
    for (Neighbour peer : all) {
      boolean timed = peer.state == 1 || (peer.state > 1 && peer.hold > 0);
      if (timed && --peer.holdTimer == 0) {
        end(peer, 4, 0);
      } else if (timed && peer.state == 3 && --peer.keepTimer == 0) {
        peer.keepTimer = peer.hold / 3;
        send(peer, 4);
      }
    }
    for (Neighbour peer : all) {
      peer.penalties.replaceAll((prefix, penalty) -> penalty * 0.875);
      peer.damped.removeIf(prefix -> peer.penalties.get(prefix) < 750.0);
    }
    tellAll();
    return (int) Arrays.stream(all).filter(peer -> peer.state == 3).count();
  }

  int session(int p, int what) {
    if (p < 0 || p > 3 || what < 0 || what > 6) {
      return -1;
    }
    Neighbour peer = all[p];
    boolean agreed = peer.state >= 2;
    int[] answers = {peer.state, peer.state == 0 ? 0 : peer.holdTimer, peer.state == 3 ? peer.keepTimer : 0,
        agreed ? peer.hold : 0, agreed ? peer.id : 0, peer.out.size(), peer.in.size()};
    return answers[what];
  }

  int best(int length, int address, int what) {
    argument(prefix(length, address) && what >= 0 && what <= 21);
    Entry best = best(List.of(length, address));
    element(best != null);
    List<Integer> path = best.many(2);
    List<Integer> clusters = best.many(10);
    switch (what) {
      case 0: return best.from;
      case 1: return preference(best, List.of(length, address));
      case 2: return best.one(1, 0);
      case 3: return path.size();
      case 4: return best.one(3, 0);
      case 5: return best.one(4, -1);
      case 6: return best.one(9, 0);
      case 7: return clusters.size();
      default:
        List<Integer> row = what < 16 ? path : clusters;
        int place = what < 16 ? what - 8 : what - 16;
        return place < row.size() ? row.get(place) : 0;
    }
  }

  int flaw(int p, int length, int address) {
    argument(p >= 0 && p <= 3 && prefix(length, address));
    List<Integer> prefix = List.of(length, address);
    element(all[p].routes.containsKey(prefix));
    return flaws(all[p], prefix);
  }

  double penalty(int p, int length, int address) {
    argument(p >= 0 && p <= 3 && prefix(length, address));
    return all[p].penalties.getOrDefault(List.of(length, address), 0.0);
  }

  int forward(int address) {
    argument(address >= 0 && address <= 255);
    for (int length = 8; length >= 0; length--) {
      int start = address >> (8 - length) << (8 - length);
      Entry best = best(List.of(length, start));
      if (best != null) {
        return best.from;
      }
    }
    throw new NoSuchElementException();
  }

  int known() {
    return known.size();
  }

  // ---- what the face rests on

  private static void argument(boolean good) {
    if (!good) {
      throw new IllegalArgumentException();
    }
  }

  private static void state(boolean good) {
    if (!good) {
      throw new IllegalStateException();
    }
  }

  private static void element(boolean there) {
    if (!there) {
      throw new NoSuchElementException();
    }
  }

  private static boolean number(int value) {
    return value > 0 && value < 251;
  }

  private static boolean prefix(int length, int address) {
    return length >= 0 && length <= 8 && address >= 0 && address <= 255 && address % (1 << (8 - length)) == 0;
  }

  private static boolean within(List<Integer> inner, int length, int address) {
    return inner.get(0) >= length && inner.get(1) >> (8 - length) == address >> (8 - length);
  }

  private void close(Neighbour peer) {
    peer.state = 0;
    peer.in.clear();
    peer.routes.clear();
    peer.told.clear();
  }

  private void end(Neighbour peer, int code, int subcode) {
    send(peer, 3, code, subcode);
    close(peer);
  }

  /** Sends a message: what stands behind its size. */
  private boolean send(Neighbour peer, Integer... rest) {
    if (peer.out.size() + rest.length + 1 > 200) {
      close(peer);
      return false;
    }
    peer.out.add(rest.length + 1);
    peer.out.addAll(Arrays.asList(rest));
    return true;
  }

  private void look(Neighbour peer, int p, List<Integer> m) {
    int size = m.get(0);
    if (size < 2 || size > 60) {
      end(peer, 1, 2);
      return;
    }
    int type = m.get(1);
    int[] sizes = {0, 6, 0, 4, 2};
    if (type < 1 || type > 4) {
      end(peer, 1, 3);
    } else if (type == 2 ? size < 4 : size != sizes[type]) {
      end(peer, 1, 2);
    } else if (type == 3) {
      close(peer);
    } else if (peer.state == 1) {
      int fault = type != 1 ? 501 : m.get(2) != 4 ? 201 : m.get(3) != peer.network ? 202
          : !number(m.get(5)) || m.get(5) == 7 ? 203 : m.get(4) == 1 || m.get(4) == 2 ? 206 : 0;
      if (fault > 0) {
        end(peer, fault / 100, fault % 100);
      } else {
        peer.state = 2;
        peer.hold = Math.min(9, m.get(4));
        peer.holdTimer = peer.hold;
        peer.id = m.get(5);
        send(peer, 4);
      }
    } else if (peer.state == 2) {
      if (type != 4) {
        end(peer, 5, 2);
      } else {
        peer.state = 3;
        peer.holdTimer = peer.hold;
        peer.keepTimer = peer.hold / 3;
      }
    } else if (type == 1) {
      end(peer, 5, 3);
    } else {
      peer.holdTimer = peer.hold;
      if (type == 2) {
        takeIn(peer, p, m);
      }
    }
  }

  private void takeIn(Neighbour peer, int p, List<Integer> m) {
    List<List<Integer>> withdrawn = new ArrayList<>();
    List<List<Integer>> announced = new ArrayList<>();
    List<List<Integer>> attributes = new ArrayList<>();
    Entry entry = new Entry();
    entry.from = p;
    int fault;
    try {
      int behind = 3 + 2 * m.get(2);
      pairs(m.subList(3, behind), withdrawn);
      int end = behind + 1 + m.get(behind);
      List<Integer> part = m.subList(behind + 1, end);
      for (int at = 0; at < part.size(); at += 2 + part.get(at + 1)) {
        List<Integer> attribute = new ArrayList<>(List.of(part.get(at)));
        attribute.addAll(part.subList(at + 2, at + 2 + part.get(at + 1)));
        attributes.add(attribute);
      }
      pairs(m.subList(end, m.size()), announced);
      fault = fault(peer, attributes, withdrawn, announced, entry);
    } catch (IndexOutOfBoundsException e) {
      fault = 1;
    }
    Set<List<Integer>> then = new LinkedHashSet<>(known);
    then.addAll(announced);
    if (fault > 0) {
      end(peer, 3, fault);
    } else if (then.size() > 12) {
      end(peer, 6, 1);
    } else {
      known.addAll(announced);
      for (List<Integer> prefix : withdrawn) {
        if (peer.routes.remove(prefix) != null) {
          grow(peer, prefix, 1000.0);
        }
      }
      for (List<Integer> prefix : announced) {
        Entry old = peer.routes.put(prefix, entry);
        if (old != null && !old.values.equals(entry.values)) {
          grow(peer, prefix, 500.0);
        }
      }
    }
  }

  private static void pairs(List<Integer> from, List<List<Integer>> to) {
    for (int i = 0; i < from.size(); i += 2) {
      to.add(List.of(from.get(i), from.get(i + 1)));
    }
  }

  private static int fault(Neighbour peer, List<List<Integer>> attributes, List<List<Integer>> withdrawn,
      List<List<Integer>> announced, Entry entry) {
    Set<Integer> names = new HashSet<>();
    for (List<Integer> attribute : attributes) {
      int name = attribute.get(0);
      List<Integer> value = attribute.subList(1, attribute.size());
      if (!names.add(name)) {
        return 1;
      }
      if (name >= 128) {
        continue;
      }
      if (!List.of(1, 2, 3, 4, 5, 9, 10).contains(name)) {
        return 2;
      }
      if (name == 2 ? value.size() > 8 : name == 10 ? value.size() > 6 : value.size() != 1) {
        return 5;
      }
      if (name == 1 && value.get(0) > 2) {
        return 6;
      }
      if (name == 3 && (!number(value.get(0)) || value.get(0) == 7)) {
        return 8;
      }
      if (name == 9 && !number(value.get(0))) {
        return 9;
      }
      if ((name == 2 || name == 10) && !value.stream().allMatch(Model::number)) {
        return 11;
      }
      boolean matters = peer.role > 0 ? name != 10 || !value.isEmpty() : name < 5;
      if (matters) {
        entry.values.put(name, new ArrayList<>(value));
      }
    }
    if (!announced.isEmpty()) {
      if (!names.containsAll(List.of(1, 2, 3)) || (peer.role > 0 && !names.contains(5))) {
        return 3;
      }
      if (peer.role == 0 && (entry.many(2).isEmpty() || entry.many(2).get(0) != peer.network)) {
        return 11;
      }
    }
    boolean allPrefixes = withdrawn.stream().allMatch(x -> prefix(x.get(0), x.get(1)))
        && announced.stream().allMatch(x -> prefix(x.get(0), x.get(1)));
    return allPrefixes ? 0 : 10;
  }

  private static void grow(Neighbour peer, List<Integer> prefix, double more) {
    peer.penalties.merge(prefix, more, Double::sum);
    if (peer.penalties.get(prefix) > 2000.0) {
      peer.damped.add(prefix);
    }
  }

  private static int action(Neighbour peer, List<Integer> prefix) {
    for (int[] rule : peer.rules) {
      if (within(prefix, rule[0], rule[1])) {
        return rule[2];
      }
    }
    return -1;
  }

  private static int flaws(Neighbour peer, List<Integer> prefix) {
    Entry entry = peer.routes.get(prefix);
    boolean barred = entry.many(2).contains(100) || entry.one(9, 0) == 7 || entry.many(10).contains(7);
    return (barred ? 1 : 0) + (peer.damped.contains(prefix) ? 2 : 0) + (action(peer, prefix) == 0 ? 4 : 0);
  }

  private int preference(Entry entry, List<Integer> prefix) {
    int action = entry.from == 4 ? -1 : action(all[entry.from], prefix);
    return action >= 0 ? action : entry.one(5, 100);
  }

  private boolean inside(Entry entry) {
    return entry.from < 4 && all[entry.from].role > 0;
  }

  private Entry best(List<Integer> prefix) {
    List<Entry> left = new ArrayList<>();
    if (originated.contains(prefix)) {
      Entry own = new Entry();
      own.from = 4;
      own.values.put(1, List.of(0));
      own.values.put(2, List.of());
      own.values.put(3, List.of(7));
      left.add(own);
    }
    for (Neighbour peer : all) {
      if (peer.routes.containsKey(prefix) && flaws(peer, prefix) == 0) {
        left.add(peer.routes.get(prefix));
      }
    }
    left = least(left, x -> -preference(x, prefix));
    left = least(left, x -> x.many(2).size());
    left = least(left, x -> x.one(1, 0));
    List<Entry> behind = new ArrayList<>();
    for (Entry entry : left) {
      boolean beaten = false;
      for (Entry other : left) {
        boolean alike = other.many(2).isEmpty() ? entry.many(2).isEmpty()
            : !entry.many(2).isEmpty() && other.many(2).get(0).equals(entry.many(2).get(0));
        beaten |= alike && other.one(4, 0) < entry.one(4, 0);
      }
      if (!beaten) {
        behind.add(entry);
      }
    }
    left = behind;
    if (left.stream().anyMatch(x -> !inside(x))) {
      left.removeIf(this::inside);
    }
    left = least(left, x -> x.one(9, x.from == 4 ? 7 : all[x.from].id));
    left = least(left, x -> x.many(10).size());
    return left.isEmpty() ? null : left.get(0);
  }

  private static List<Entry> least(List<Entry> from, ToIntFunction<Entry> measure) {
    int least = from.stream().mapToInt(measure).min().orElse(0);
    List<Entry> left = new ArrayList<>(from);
    left.removeIf(x -> measure.applyAsInt(x) > least);
    return left;
  }

  /** What is to be told to a peer of the best route to a prefix, or null. */
  private TreeMap<Integer, List<Integer>> due(int p, List<Integer> prefix) {
    Neighbour peer = all[p];
    Entry best = best(prefix);
    if (best == null || best.from == p || (peer.mute != null && within(prefix, peer.mute.get(0), peer.mute.get(1)))) {
      return null;
    }
    if (peer.role == 2 && best.from < 4 && all[best.from].role == 2) {
      return null;
    }
    TreeMap<Integer, List<Integer>> due = new TreeMap<>(best.values);
    if (peer.role == 0) {
      due.keySet().retainAll(Set.of(1));
      List<Integer> path = new ArrayList<>(Collections.nCopies(1 + peer.padding, 100));
      path.addAll(best.many(2));
      due.put(2, path);
      due.put(3, List.of(7));
      return path.size() > 8 ? null : due;
    }
    due.put(5, List.of(preference(best, prefix)));
    if (inside(best)) {
      due.putIfAbsent(9, List.of(all[best.from].id));
      List<Integer> clusters = new ArrayList<>(List.of(7));
      clusters.addAll(best.many(10));
      due.put(10, clusters);
      return clusters.size() > 6 ? null : due;
    }
    return due;
  }

  private void tellAll() {
    boolean closed = true;
    while (closed) {
      closed = false;
      for (List<Integer> prefix : known) {
        for (int p = 0; p < 4 && !closed; p++) {
          closed = all[p].state == 3 && !tell(p, prefix);
        }
        if (closed) {
          break;
        }
      }
    }
  }

  /** False when the session is closed by that. */
  private boolean tell(int p, List<Integer> prefix) {
    TreeMap<Integer, List<Integer>> due = due(p, prefix);
    TreeMap<Integer, List<Integer>> before = all[p].told.remove(prefix);
    if (due == null) {
      return before == null || send(all[p], 2, 1, prefix.get(0), prefix.get(1), 0);
    }
    all[p].told.put(prefix, due);
    if (due.equals(before)) {
      return true;
    }
    List<Integer> attributes = new ArrayList<>();
    due.forEach((name, value) -> {
      attributes.add(name);
      attributes.add(value.size());
      attributes.addAll(value);
    });
    List<Integer> rest = new ArrayList<>(List.of(2, 0, attributes.size()));
    rest.addAll(attributes);
    rest.addAll(prefix);
    return send(all[p], rest.toArray(new Integer[0]));
  }
}
