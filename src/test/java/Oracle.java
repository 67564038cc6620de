import java.math.BigInteger;
import java.util.ArrayList;
import java.util.Arrays;
import java.util.Comparator;
import java.util.HashMap;
import java.util.List;
import java.util.Map;
import java.util.TreeMap;
import java.util.TreeSet;

/**
 * The document read word by word, slowly and with the Java library: sets of keys, a tree of prefixes, rows of
 * bits written out. It shares no thought with the program but the document.
 */
final class Oracle {
  static final Comparator<int[]> ORDER = (x, y) -> {
    for (int i = 0; i < Math.min(x.length, y.length); i++) {
      if (x[i] != y[i]) return x[i] < y[i] ? -1 : 1;
    }
    return Integer.compare(x.length, y.length);
  };

  static final class Leaf {
    int[] key;
    int[] beginning;
    boolean ended;
    int common;
  }

  static final class Node {
    int[] row;
    boolean isEnd;
    TreeMap<Integer, Node> branches = new TreeMap<>(); // a null value leads to a leaf
  }

  static final class Item {
    Node node;
    int octet;
    boolean isEnd;
    boolean hasChild;
    boolean first;
  }

  static final class World implements Cloneable {
    TreeSet<int[]> set = new TreeSet<>(ORDER);
    int[] told = {4, 4, 9, 16, 4, 0};
    int mode = 0;
    Filter filter = new Filter(new TreeSet<>(ORDER), new int[] {4, 4, 9, 16, 4, 0}, 0);
    List<int[]> questions = new ArrayList<>();
    int state = 0;
    int[] account = new int[6];

    World copy() {
      World w = new World();
      w.set = new TreeSet<>(ORDER);
      w.set.addAll(set);
      w.told = told.clone();
      w.mode = mode;
      w.filter = filter;
      w.questions = new ArrayList<>(questions);
      w.state = state;
      w.account = account.clone();
      return w;
    }
  }

  /** Never changed once it is made. */
  static final class Filter {
    final List<int[]> keys;
    final int salt;
    final int h;
    final int r;
    final List<Leaf> leaves = new ArrayList<>();
    final List<Node> nodes = new ArrayList<>();
    final Map<String, Integer> numbers = new HashMap<>();
    final int levels;
    final int upper;
    final List<Leaf> byPlace = new ArrayList<>();
    final List<Item> items = new ArrayList<>();
    final boolean[][] rows = new boolean[6][];
    private final Map<Leaf, List<int[]>> probed = new HashMap<>();

    Filter(TreeSet<int[]> from, int[] told, int mode) {
      keys = new ArrayList<>(from);
      salt = told[5];
      h = mode == 1 || mode == 3 ? told[0] : 0;
      r = mode == 2 || mode == 3 ? told[1] : 0;
      for (int i = 0; i < keys.size(); i++) leaves.add(cut(i));
      findNodes();
      int most = NONE;
      for (Node n : nodes) most = Math.max(most, n.row.length);
      levels = most + 1;
      int u = 0;
      if (told[2] == 9) {
        for (int k = 0; k <= levels; k++) {
          if ((long) told[3] * upperBits(k) <= otherBits(k)) u = k;
        }
      } else {
        u = Math.min(told[2], levels);
      }
      upper = u;
      findPlaces();
      findRows();
    }

    private Leaf cut(int i) {
      Leaf leaf = new Leaf();
      leaf.key = keys.get(i);
      for (int j = 0; j < keys.size(); j++) {
        if (j != i) leaf.common = Math.max(leaf.common, alike(leaf.key, keys.get(j)));
      }
      leaf.ended = leaf.common == leaf.key.length;
      leaf.beginning = leaf.ended ? leaf.key : Arrays.copyOf(leaf.key, leaf.common + 1);
      return leaf;
    }

    private void findNodes() {
      TreeMap<String, int[]> found = new TreeMap<>();
      for (Leaf leaf : leaves) {
        for (int n = 0; n < leaf.beginning.length; n++) {
          int[] row = Arrays.copyOf(leaf.beginning, n);
          found.put(n + "|" + hex(row), row);
        }
      }
      for (Map.Entry<String, int[]> e : found.entrySet()) {
        Node node = new Node();
        node.row = e.getValue();
        numbers.put(hex(node.row), nodes.size());
        nodes.add(node);
      }
      for (Leaf leaf : leaves) {
        if (leaf.ended) {
          nodes.get(numbers.get(hex(leaf.beginning))).isEnd = true;
        }
        for (int n = 0; n < leaf.beginning.length; n++) {
          Node node = nodes.get(numbers.get(hex(Arrays.copyOf(leaf.beginning, n))));
          Integer to = numbers.get(hex(Arrays.copyOf(leaf.beginning, n + 1)));
          node.branches.put(leaf.beginning[n], to == null ? null : nodes.get(to));
        }
      }
    }

    private void findPlaces() {
      for (boolean wantUpper : new boolean[] {true, false}) {
        for (Node node : nodes) {
          if (isUpper(node) != wantUpper) continue;
          if (node.isEnd) {
            byPlace.add(leafWith(node.row));
            if (!wantUpper) addItem(node, NONE, true, false);
          }
          for (Map.Entry<Integer, Node> b : node.branches.entrySet()) {
            if (b.getValue() == null) byPlace.add(leafWith(plus(node.row, b.getKey())));
            if (!wantUpper) addItem(node, b.getKey(), false, b.getValue() != null);
          }
        }
      }
    }

    private void addItem(Node node, int octet, boolean isEnd, boolean hasChild) {
      Item item = new Item();
      item.node = node;
      item.octet = octet;
      item.isEnd = isEnd;
      item.hasChild = hasChild;
      item.first = items.isEmpty() || items.get(items.size() - 1).node != node;
      items.add(item);
    }

    private void findRows() {
      int n = upperNodes();
      rows[0] = new boolean[256 * n];
      rows[1] = new boolean[256 * n];
      rows[2] = new boolean[n];
      for (int i = 0; i < n; i++) {
        Node node = nodes.get(i);
        rows[2][i] = node.isEnd;
        for (Map.Entry<Integer, Node> b : node.branches.entrySet()) {
          rows[0][256 * i + b.getKey()] = true;
          rows[1][256 * i + b.getKey()] = b.getValue() != null;
        }
      }
      for (int k = 3; k < 6; k++) rows[k] = new boolean[items.size()];
      for (int i = 0; i < items.size(); i++) {
        rows[3][i] = items.get(i).isEnd;
        rows[4][i] = items.get(i).hasChild;
        rows[5][i] = items.get(i).first;
      }
    }

    Leaf leafWith(int[] beginning) {
      for (Leaf leaf : leaves) if (Arrays.equals(leaf.beginning, beginning)) return leaf;
      return null;
    }

    boolean isUpper(Node node) { return node.row.length < upper; }

    int upperNodes() {
      int n = 0;
      for (Node node : nodes) if (isUpper(node)) n++;
      return n;
    }

    int upperBits(int k) {
      int sum = 0;
      for (Node node : nodes) if (node.row.length < k) sum += 513;
      return sum;
    }

    int otherBits(int k) {
      int sum = 0;
      for (Node node : nodes) {
        if (node.row.length >= k) sum += 11 * node.branches.size() + (node.isEnd ? 11 : 0);
      }
      return sum;
    }

    int hash(int[] key, int bits) {
      int x = salt;
      for (int octet : key) x = (x ^ octet) * 16777619;
      x = x ^ (x >>> 15);
      return Math.floorMod(x, 1 << bits);
    }

    static int next(int[] key, Leaf leaf, int bits) {
      int octet = key.length > leaf.beginning.length ? key[leaf.beginning.length] : 0;
      return octet / (1 << (8 - bits));
    }

    boolean possible(int[] key, Leaf leaf, int bits) {
      if (leaf.ended) return Arrays.equals(key, leaf.beginning);
      return begins(key, leaf.beginning) && next(key, leaf, bits) == next(leaf.key, leaf, bits);
    }

    int leafOf(int[] key, int bits) {
      int found = NONE;
      for (int i = 0; i < leaves.size(); i++) {
        if (possible(key, leaves.get(i), bits)) {
          if (found != NONE) throw new IllegalStateException("possible at two leaves");
          found = i;
        }
      }
      return found;
    }

    boolean mayBe(int[] key, int hb, int rb) {
      int i = leafOf(key, rb);
      return i != NONE && hash(key, hb) == hash(leaves.get(i).key, hb);
    }

    boolean hasKey(int[] key) {
      for (int[] k : keys) if (Arrays.equals(k, key)) return true;
      return false;
    }

    /** The lowest and the highest of what is possible at a leaf are among these. */
    List<int[]> probes(Leaf leaf) { return probed.computeIfAbsent(leaf, this::findProbes); }

    private List<int[]> findProbes(Leaf leaf) {
      List<int[]> all = new ArrayList<>();
      all.add(leaf.beginning);
      if (leaf.beginning.length < 8) {
        for (int c = 0; c < 256; c++) {
          int[] longer = plus(leaf.beginning, c);
          all.add(longer);
          int[] longest = Arrays.copyOf(longer, 8);
          Arrays.fill(longest, longer.length, 8, 255);
          all.add(longest);
        }
      }
      all.removeIf(k -> !possible(k, leaf, r));
      all.sort(ORDER);
      return all;
    }

    boolean meets(Leaf leaf, int[] from, int[] to) {
      if (possible(from, leaf, r) || possible(to, leaf, r)) return true;
      for (int[] k : probes(leaf)) if (ORDER.compare(from, k) <= 0 && ORDER.compare(k, to) <= 0) return true;
      return false;
    }

    boolean holds(Leaf leaf, int[] from, int[] to) {
      for (int[] k : probes(leaf)) if (ORDER.compare(from, k) > 0 || ORDER.compare(k, to) > 0) return false;
      return true;
    }

    /** Of m bytes that are possible at leaves, by what begins so (CountedKeys goes through them one by one). */
    BigInteger covered(int m) {
      BigInteger sum = BigInteger.ZERO;
      for (Leaf leaf : leaves) sum = sum.add(coveredAt(leaf, m));
      return sum;
    }

    private BigInteger coveredAt(Leaf leaf, int m) {
      int n = leaf.beginning.length;
      if (leaf.ended) return n == m ? BigInteger.ONE : BigInteger.ZERO;
      if (m < n) return BigInteger.ZERO;
      if (m == n) return possible(leaf.beginning, leaf, r) ? BigInteger.ONE : BigInteger.ZERO;
      int here = 0;
      for (int c = 0; c < 256; c++) if (possible(plus(leaf.beginning, c), leaf, r)) here++;
      return BigInteger.valueOf(here).multiply(BigInteger.valueOf(256).pow(m - n - 1));
    }

    BigInteger free(int i, int m) {
      BigInteger all = BigInteger.valueOf(256).pow(m);
      BigInteger count = i == leaves.size() ? all : keysAhead(lowest(leaves.get(i)), m);
      if (i > 0) {
        int[] high = highest(leaves.get(i - 1));
        count = count.subtract(keysAhead(high, m));
        if (high.length == m) count = count.subtract(BigInteger.ONE);
      }
      return count;
    }

    private int[] lowest(Leaf leaf) {
      List<int[]> all = probes(leaf);
      return all.get(0);
    }

    private int[] highest(Leaf leaf) {
      List<int[]> all = probes(leaf);
      return all.get(all.size() - 1);
    }

    /** Keys of m bytes that first differ at byte i, and the beginning of m bytes if the key is longer. */
    static BigInteger keysAhead(int[] key, int m) {
      BigInteger sum = BigInteger.ZERO;
      for (int i = 0; i < Math.min(m, key.length); i++) {
        sum = sum.add(BigInteger.valueOf(key[i]).multiply(BigInteger.valueOf(256).pow(m - i - 1)));
      }
      return key.length > m ? sum.add(BigInteger.ONE) : sum;
    }
  }

  static final int NONE = -1;
  World now = new World();
  World kept = null;
  List<Integer> tape = new ArrayList<>();
  int row = 0;
  String text = "";

  static int alike(int[] x, int[] y) {
    int n = 0;
    while (n < x.length && n < y.length && x[n] == y[n]) n++;
    return n;
  }

  static boolean begins(int[] key, int[] with) { return alike(key, with) == with.length; }

  static int[] plus(int[] row, int octet) {
    int[] longer = Arrays.copyOf(row, row.length + 1);
    longer[row.length] = octet;
    return longer;
  }

  static String hex(int[] row) {
    StringBuilder s = new StringBuilder();
    for (int octet : row) s.append(String.format("%02x", octet));
    return s.toString();
  }

  static int[] key(int a, int b, int n) {
    if (n < 1 || n > 8) return null;
    int[] all = {a >>> 24, a >>> 16 & 255, a >>> 8 & 255, a & 255, b >>> 24, b >>> 16 & 255, b >>> 8 & 255, b & 255};
    return Arrays.copyOf(all, n);
  }

  static int numberIn(Iterable<int[]> keys, int[] key) {
    int i = 0;
    for (int[] k : keys) {
      if (Arrays.equals(k, key)) return i;
      i++;
    }
    return NONE;
  }

  int feed(int a, int b, int c, int d, int e) {
    if (tape.size() + 20 > 160) return NONE;
    for (int v : new int[] {a, b, c, d, e}) for (int octet : key(v, 0, 4)) tape.add(octet);
    return tape.size();
  }

  boolean end(int n) {
    if (n < 0 || n > tape.size()) return false;
    tape = new ArrayList<>(tape.subList(0, n));
    return true;
  }

  private int name(String... names) {
    StringBuilder s = new StringBuilder();
    for (int octet : tape) s.append((char) octet);
    tape.clear();
    return Arrays.asList(names).indexOf(s.toString());
  }

  int mode() {
    int found = name("none", "hash", "real", "both");
    if (found >= 0) now.mode = found;
    return found;
  }

  int row() {
    int found = name("labels", "kids", "ends", "marks", "lower", "firsts");
    if (found >= 0) row = found;
    return found;
  }

  int keys() {
    List<Integer> read = new ArrayList<>(tape);
    tape.clear();
    TreeSet<int[]> all = new TreeSet<>(ORDER);
    all.addAll(now.set);
    int i = 0;
    while (i < read.size()) {
      int n = read.get(i);
      if (n < 1 || n > 8 || i + 1 + n > read.size()) return NONE;
      int[] key = new int[n];
      for (int j = 0; j < n; j++) key[j] = read.get(i + 1 + j);
      all.add(key);
      i += 1 + n;
    }
    if (all.size() > 64) return NONE;
    int came = all.size() - now.set.size();
    now.set = all;
    return came;
  }

  boolean set(int what, int v) {
    int[] least = {0, 0, 0, 1, 1, Integer.MIN_VALUE};
    int[] most = {8, 8, 9, 64, 256, Integer.MAX_VALUE};
    if (what < 0 || what > 5 || v < least[what] || v > most[what]) return false;
    now.told[what] = v;
    return true;
  }

  int state(int v) {
    int was = now.state;
    now.state = v;
    return was;
  }

  int add(int a, int b, int n) {
    int[] key = key(a, b, n);
    if (key == null || now.set.contains(key) || now.set.size() == 64) return NONE;
    now.set.add(key);
    return numberIn(now.set, key);
  }

  int remove(int a, int b, int n) {
    int[] key = key(a, b, n);
    int number = key == null ? NONE : numberIn(now.set, key);
    if (number != NONE) now.set.remove(key);
    return number;
  }

  private int draw(int m) {
    now.state = 1664525 * now.state + 1013904223;
    return (now.state >>> 8) % m;
  }

  private int[] drawKey(int m) {
    int[] key = new int[draw(m) + 1];
    for (int i = 0; i < key.length; i++) key[i] = draw(now.told[4]);
    return key;
  }

  int fill(int n, int m) {
    if (n < 1 || n > 64 || m < 1 || m > 8) return NONE;
    int came = 0;
    for (int i = 0; i < n; i++) {
      int[] key = drawKey(m);
      if (now.set.size() < 64 && now.set.add(key)) came++;
    }
    return came;
  }

  int build() {
    now.filter = new Filter(now.set, now.told, now.mode);
    return now.filter.leaves.size();
  }

  int has(int a, int b, int n, int what) {
    int[] key = key(a, b, n);
    if (key == null || what < 0 || what > 1) return NONE;
    return numberIn(what == 0 ? now.set : now.filter.keys, key);
  }

  private boolean falsely(int[] key) {
    return now.filter.mayBe(key, now.filter.h, now.filter.r) && !now.filter.hasKey(key);
  }

  private int ask(int[] key) {
    boolean may = now.filter.mayBe(key, now.filter.h, now.filter.r);
    now.account[0]++;
    if (may) now.account[1]++;
    if (falsely(key)) now.account[2]++;
    return may ? 1 : 0;
  }

  int may(int a, int b, int n) {
    int[] key = key(a, b, n);
    return key == null ? NONE : ask(key);
  }

  int leafOf(int a, int b, int n) {
    int[] key = key(a, b, n);
    return key == null ? NONE : now.filter.leafOf(key, now.filter.r);
  }

  private int ask(int[] from, int[] to) {
    boolean may = false;
    boolean real = false;
    for (Leaf leaf : now.filter.leaves) may |= now.filter.meets(leaf, from, to);
    for (int[] key : now.filter.keys) real |= ORDER.compare(from, key) <= 0 && ORDER.compare(key, to) <= 0;
    now.account[3]++;
    if (may) now.account[4]++;
    if (may && !real) now.account[5]++;
    return may ? 1 : 0;
  }

  private static boolean isRange(int[] from, int[] to) {
    return from != null && to != null && ORDER.compare(from, to) <= 0;
  }

  int range(int a, int b, int n, int c, int d, int m) {
    int[] from = key(a, b, n);
    int[] to = key(c, d, m);
    return isRange(from, to) ? ask(from, to) : NONE;
  }

  int meets(int a, int b, int n, int c, int d, int m) {
    int[] from = key(a, b, n);
    int[] to = key(c, d, m);
    if (!isRange(from, to)) return NONE;
    int count = 0;
    for (Leaf leaf : now.filter.leaves) if (now.filter.meets(leaf, from, to)) count++;
    return count;
  }

  int holds(int a, int b, int n, int c, int d, int m) {
    int[] from = key(a, b, n);
    int[] to = key(c, d, m);
    if (!isRange(from, to)) return NONE;
    int count = 0;
    for (Leaf leaf : now.filter.leaves) if (now.filter.holds(leaf, from, to)) count++;
    return count;
  }

  int seek(int a, int b, int n) {
    int[] key = key(a, b, n);
    if (key == null) return NONE;
    int[] last = {255, 255, 255, 255, 255, 255, 255, 255};
    for (int i = 0; i < now.filter.leaves.size(); i++) {
      if (now.filter.meets(now.filter.leaves.get(i), key, last)) return i;
    }
    return NONE;
  }

  int seekBack(int a, int b, int n) {
    int[] key = key(a, b, n);
    if (key == null) return NONE;
    int found = NONE;
    for (int i = 0; i < now.filter.leaves.size(); i++) {
      if (now.filter.meets(now.filter.leaves.get(i), new int[] {0}, key)) found = i;
    }
    return found;
  }

  int leaf(int leaf, int what) {
    Filter f = now.filter;
    if (leaf < 0 || leaf >= f.leaves.size()) return NONE;
    Leaf l = f.leaves.get(leaf);
    if (what == 0) return l.beginning.length;
    if (what == 1) return l.ended ? 1 : 0;
    if (what == 2) return f.hash(l.key, f.h);
    if (what == 3) return Filter.next(l.key, l, f.r);
    if (what == 4) return f.byPlace.indexOf(l);
    if (what == 5) {
      return f.numbers.get(hex(Arrays.copyOf(l.beginning, l.beginning.length - (l.ended ? 0 : 1))));
    }
    if (what == 6) return l.common;
    if (what >= 10 && what <= 17 && what - 10 < l.beginning.length) return l.beginning[what - 10];
    return NONE;
  }

  int leafAt(int place) {
    if (place < 0 || place >= now.filter.byPlace.size()) return NONE;
    return now.filter.leaves.indexOf(now.filter.byPlace.get(place));
  }

  int node(int node, int what) {
    Filter f = now.filter;
    if (node < 0 || node >= f.nodes.size()) return NONE;
    Node n = f.nodes.get(node);
    int kids = 0;
    for (Node k : n.branches.values()) if (k != null) kids++;
    int first = NONE;
    int below = 0;
    for (int i = 0; i < f.leaves.size(); i++) {
      if (begins(f.leaves.get(i).beginning, n.row)) {
        if (first == NONE) first = i;
        below++;
      }
    }
    int[] answers = {n.row.length, n.branches.size(), kids, n.isEnd ? 1 : 0, f.isUpper(n) ? 1 : 0, first, below};
    return what >= 0 && what < 7 ? answers[what] : NONE;
  }

  int child(int node, int octet) {
    Filter f = now.filter;
    if (node < 0 || node >= f.nodes.size() || octet < 0 || octet > 255) return NONE;
    Node n = f.nodes.get(node);
    if (!n.branches.containsKey(octet)) return -3;
    return n.branches.get(octet) == null ? -2 : f.nodes.indexOf(n.branches.get(octet));
  }

  int level(int level, int what) {
    Filter f = now.filter;
    if (level < 0 || level >= f.levels) return NONE;
    int nodes = 0;
    int branches = 0;
    int ends = 0;
    for (Node n : f.nodes) {
      if (n.row.length == level) {
        nodes++;
        branches += n.branches.size();
        if (n.isEnd) ends++;
      }
    }
    int leaves = 0;
    for (Leaf l : f.leaves) {
      if (l.beginning.length == level + 1 || l.ended && l.beginning.length == level) leaves++;
    }
    boolean up = level < f.upper;
    int[] answers = {nodes, branches, leaves, up ? 1 : 0, up ? 513 * nodes : 11 * (branches + ends)};
    return what >= 0 && what < 5 ? answers[what] : NONE;
  }

  int item(int item, int what) {
    Filter f = now.filter;
    if (item < 0 || item >= f.items.size()) return NONE;
    Item i = f.items.get(item);
    int[] answers = {i.octet, i.isEnd ? 1 : 0, i.hasChild ? 1 : 0, f.nodes.indexOf(i.node)};
    return what >= 0 && what < 4 ? answers[what] : NONE;
  }

  int bit(int i) {
    boolean[] bits = now.filter.rows[row];
    return i < 0 || i >= bits.length ? NONE : bits[i] ? 1 : 0;
  }

  int rank(int i) {
    boolean[] bits = now.filter.rows[row];
    if (i < 0 || i > bits.length) return NONE;
    int ones = 0;
    for (int j = 0; j < i; j++) if (bits[j]) ones++;
    return ones;
  }

  int select(int k) {
    boolean[] bits = now.filter.rows[row];
    int ones = 0;
    for (int j = 0; j < bits.length; j++) {
      if (bits[j]) {
        if (ones == k) return j;
        ones++;
      }
    }
    return NONE;
  }

  int bits(int what) {
    Filter f = now.filter;
    int tails = f.leaves.size() * (f.h + f.r);
    int own = 0;
    for (int[] key : f.keys) own += 8 * key.length;
    int up = f.upperBits(f.upper);
    int other = f.otherBits(f.upper);
    int[] answers = {up, other, tails, up + other + tails, own, f.rows[row].length, rank(f.rows[row].length)};
    return what >= 0 && what < 7 ? answers[what] : NONE;
  }

  int least(int what) {
    Filter f = now.filter;
    int best = 0;
    int fewest = Integer.MAX_VALUE;
    for (int k = 0; k <= f.levels; k++) {
      int all = f.upperBits(k) + f.otherBits(k) + f.leaves.size() * (f.h + f.r);
      if (all < fewest) {
        fewest = all;
        best = k;
      }
    }
    return what == 0 ? best : what == 1 ? fewest : NONE;
  }

  long cover(int m) { return m < 1 || m > 7 ? NONE : now.filter.covered(m).longValueExact(); }

  long loose(int m) {
    if (m < 1 || m > 7) return NONE;
    long own = 0;
    for (int[] key : now.filter.keys) if (key.length == m) own++;
    return cover(m) - own;
  }

  long free(int i, int m) {
    if (m < 1 || m > 7 || i < 0 || i > now.filter.leaves.size()) return NONE;
    return now.filter.free(i, m).longValueExact();
  }

  int spread(int a, int b, int n, int what) {
    int[] key = key(a, b, n);
    if (key == null || n > 7 || what < 0 || what > 2) return NONE;
    List<Integer> all = new ArrayList<>();
    int wrong = 0;
    for (int c = 0; c < 256; c++) {
      if (now.filter.mayBe(plus(key, c), now.filter.h, now.filter.r)) all.add(c);
      if (falsely(plus(key, c))) wrong++;
    }
    return what == 0 ? all.size() : what == 1 ? wrong : all.isEmpty() ? NONE : all.get(0);
  }

  int question(int a, int b, int n) {
    int[] key = key(a, b, n);
    if (key == null || now.questions.size() == 16) return NONE;
    now.questions.add(key);
    return now.questions.size();
  }

  int forget() {
    int were = now.questions.size();
    now.questions.clear();
    return were;
  }

  int tuned(int w, int what) {
    if (w < 0 || w > 16 || what < 0 || what > 2) return NONE;
    int[] best = null;
    for (int h = 0; h <= 8; h++) {
      for (int r = 0; r <= 8; r++) {
        if (h + r > w) continue;
        int wrong = 0;
        for (int[] q : now.questions) if (now.filter.mayBe(q, h, r) && !now.filter.hasKey(q)) wrong++;
        int[] one = {h, r, wrong};
        boolean better = best == null || wrong < best[2]
            || wrong == best[2] && (h + r < best[0] + best[1] || h + r == best[0] + best[1] && h < best[0]);
        if (better) best = one;
      }
    }
    return best[what];
  }

  int storm(int n, int m) {
    if (n < 1 || n > 200 || m < 1 || m > 8) return NONE;
    int before = now.account[2];
    for (int i = 0; i < n; i++) ask(drawKey(m));
    return now.account[2] - before;
  }

  int stormRange(int n, int m, int w) {
    if (n < 1 || n > 200 || m < 1 || m > 8 || w < 0 || w > 255) return NONE;
    int before = now.account[5];
    for (int i = 0; i < n; i++) {
      int[] from = drawKey(m);
      int[] to = from.clone();
      to[to.length - 1] = Math.min(255, to[to.length - 1] + w);
      ask(from, to);
    }
    return now.account[5] - before;
  }

  int account(int what) { return what < 0 || what > 5 ? NONE : now.account[what]; }

  int since(int what) {
    int fresh = 0;
    int let = 0;
    int gone = 0;
    for (int[] key : now.set) {
      if (!now.filter.hasKey(key)) {
        fresh++;
        if (now.filter.mayBe(key, now.filter.h, now.filter.r)) let++;
      }
    }
    for (int[] key : now.filter.keys) if (!now.set.contains(key)) gone++;
    return what == 0 ? fresh : what == 1 ? let : what == 2 ? gone : NONE;
  }

  int report(int leaf) {
    Filter f = now.filter;
    if (leaf < -1 || leaf >= f.leaves.size()) return NONE;
    if (leaf == -1) {
      List<String> parts = new ArrayList<>();
      for (int i = 0; i < f.levels; i++) {
        parts.add((i < f.upper ? "d" : "s") + level(i, 0) + ":" + level(i, 1));
      }
      text = String.join(",", parts) + ".";
    } else {
      Leaf l = f.leaves.get(leaf);
      text = hex(l.beginning) + (l.ended ? "$" : "") + (f.h != 0 ? "#" + leaf(leaf, 2) : "");
      if (f.r != 0) {
        text += "/" + Integer.toBinaryString((1 << f.r) + leaf(leaf, 3)).substring(1);
      }
    }
    return text.length();
  }

  int sign(int i) { return i < 0 || i >= text.length() ? NONE : text.charAt(i); }

  boolean image(boolean taken) {
    if (taken) kept = now.copy();
    else if (kept != null) now = kept.copy();
    return kept != null;
  }

  int look(int what) {
    Filter f = now.filter;
    if (what >= 0 && what <= 5) return now.told[what];
    int ended = 0;
    int bytes = 0;
    for (Leaf l : f.leaves) {
      if (l.ended) ended++;
      bytes += l.beginning.length;
    }
    int[] answers = {now.mode, now.state, now.set.size(), f.leaves.size(), f.nodes.size(), f.levels, f.upper,
        f.upperNodes(), f.items.size(), f.h, f.r, now.questions.size(), tape.size(), ended, bytes};
    return what >= 6 && what <= 20 ? answers[what - 6] : -1 - 99999999;
  }
}
