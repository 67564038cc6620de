import java.lang.reflect.Method;
import java.lang.reflect.Modifier;
import java.util.ArrayList;
import java.util.List;
import java.util.Set;
import java.util.TreeSet;

/**
 * Every call that the document refuses, in each of some scenes: it answers NONE (or false), and the object is as
 * if it had not been called. For that two objects come to the same scene, one of them gets the refused call, and
 * all that they tell must be the same. Calls that only ask are held to the same.
 */
public final class RefusedTests {
  private static final int NONE = Bench.NONE;
  private static final int LEAST = Integer.MIN_VALUE;
  private static final int MOST = Integer.MAX_VALUE;
  /** Lengths that are none; 257 and 264 would be 1 and 8 if only a byte of them were looked at. */
  private static final int[] NO_LENGTHS = {0, 9, -1, -8, 257, 264, LEAST, MOST};
  private static final String[] KEYS = {"a", "ab", "abc", "abcd", "b", "bc", "bcd", "bce", "c", "p", "qr", "\0", "\0\0",
      "\377", "zzzzzzzz", "\1", "\77"};

  private static final Set<String> NEVER_REFUSE = Set.of("state", "build", "forget");
  private static final Set<String> refusing = new TreeSet<>();

  private record Refused(String name, Bench.Call call, long due) { }

  private record Place(String name, Bench.Scene scene, List<Refused> own) { }

  public static void main(String[] args) {
    for (Place place : places()) {
      Bench.says("a refused call changes nothing, " + place.name);
      for (Refused r : always()) hold(place.scene, r);
      for (Refused r : place.own) hold(place.scene, r);
      Bench.says("a call that asks changes nothing, " + place.name);
      for (Refused r : asking()) holdAsking(place.scene, r);
      Bench.says("the tape is empty then, all else stays, " + place.name);
      for (String no : NO_NAMES) holdName(place.scene, no);
    }
    Bench.says("every method of the face that may refuse has done so here");
    Bench.due("the methods", refusing.toString(), mayRefuse().toString());
    Bench.end("RefusedTests");
  }

  private static Set<String> mayRefuse() {
    Set<String> names = new TreeSet<>();
    for (Method m : BeginningsFilter.class.getDeclaredMethods()) {
      if (Modifier.isPublic(m.getModifiers()) && !NEVER_REFUSE.contains(m.getName())) names.add(m.getName());
    }
    return names;
  }

  private static void noteName(String call) { refusing.add(call.split("[^A-Za-z]")[0]); }

  private static void hold(Bench.Scene scene, Refused r) {
    noteName(r.name);
    BeginningsFilter x = at(scene);
    Bench.due(r.name, r.call.on(x), r.due);
    Bench.due("all of it behind " + r.name, Bench.whole(x, KEYS), Bench.whole(at(scene), KEYS));
  }

  private static void holdAsking(Bench.Scene scene, Refused r) {
    BeginningsFilter x = at(scene);
    long first = r.call.on(x);
    Bench.due(r.name + " again", r.call.on(x), first);
    Bench.due("all of it behind " + r.name, Bench.whole(x, KEYS), Bench.whole(at(scene), KEYS));
  }

  private static final String[] NO_NAMES = {"", "\0", "non", "nonee", "None", "nonf", "mone", " none", "none ", "hash\0",
      "label", "labelss", "kid", "firsts1", "Ends", "both real", "0", "\0none", "\1", "\11abcdefghi", "\2a"};

  /** Tapes that are no name of a mode, no name of a row, no keys: the tape goes, and nothing else does. */
  private static void holdName(Bench.Scene scene, String no) {
    for (String name : new String[] {"mode", "row", "keys"}) noteName(name);
    BeginningsFilter emptied = at(scene);
    emptied.end(0);
    String due = Bench.whole(emptied, KEYS);
    BeginningsFilter x = at(scene);
    Bench.due("mode() by " + no, Bench.mode(x, no), NONE);
    Bench.due("the tape", x.look(18), 0);
    Bench.due("all of it behind mode() by " + no, Bench.whole(x, KEYS), due);
    x = at(scene);
    Bench.due("row() by " + no, Bench.row(x, no), NONE);
    Bench.due("the tape", x.look(18), 0);
    Bench.due("all of it behind row() by " + no, Bench.whole(x, KEYS), due);
    if (no.isEmpty()) return;
    x = at(scene);
    Bench.due("keys() by " + no, Bench.keys(x, no), NONE);
    Bench.due("the tape", x.look(18), 0);
    Bench.due("all of it behind keys() by " + no, Bench.whole(x, KEYS), due);
  }

  private static BeginningsFilter at(Bench.Scene scene) {
    BeginningsFilter x = new BeginningsFilter();
    scene.on(x);
    return x;
  }

  // ---- the scenes ----

  private static List<Place> places() {
    return List.of(
        new Place("on a new object", x -> { }, ofNothing()),
        new Place("on an ordinary one", RefusedTests::ordinary, ofOrdinary()),
        new Place("on a full one", RefusedTests::full, ofFull()),
        new Place("on one whose filter has no keys", RefusedTests::emptied, ofEmptied()));
  }

  /** An image of an older moment, a filter that is not of the set, and something of all that can be there. */
  static void ordinary(BeginningsFilter x) {
    for (String k : new String[] {"a", "ab", "abc", "b", "bcd"}) Bench.add(x, k);
    int[] told = {8, 3, 1, 2, 5, 77};
    for (int i = 0; i < told.length; i++) x.set(i, told[i]);
    Bench.mode(x, "both");
    x.build();
    Bench.may(x, "a");
    x.image(true);
    Bench.remove(x, "a");
    Bench.add(x, "bce");
    Bench.add(x, "c");
    int[] later = {7, 2, 3, 4, 6, -78};
    for (int i = 0; i < later.length; i++) x.set(i, later[i]);
    Bench.mode(x, "hash");
    x.state(123456789);
    Bench.may(x, "bcd");
    Bench.range(x, "bce", "bcf");
    for (String k : new String[] {"bc\377", "bcx", "abcq", "a"}) Bench.question(x, k);
    Bench.row(x, "marks");
    x.report(4);
    Bench.tape(x, "\1p\2qr");
  }

  static void full(BeginningsFilter x) {
    for (int i = 0; i < 64; i++) x.add(i << 24, 0, 1 + i % 2);
    x.set(0, 8);
    x.set(1, 8);
    Bench.mode(x, "both");
    x.build();
    for (int i = 0; i < 16; i++) x.question(i << 24, 0, 3);
    x.image(true);
    x.report(63);
    // Keys of one byte that are all there, so that the tape can be read: 80 of them are 160 bytes.
    StringBuilder tape = new StringBuilder();
    for (int i = 0; i < 80; i++) tape.append('\1').append((char) (i % 32 * 2));
    Bench.tape(x, tape.toString());
  }

  static void emptied(BeginningsFilter x) {
    Bench.add(x, "a");
    x.build();
    Bench.remove(x, "a");
    x.build();
    Bench.add(x, "b");
    Bench.row(x, "firsts");
    Bench.question(x, "a");
    x.report(NONE);
  }

  // ---- what is refused in every scene ----

  private static List<Refused> always() {
    List<Refused> all = new ArrayList<>();
    for (int n : NO_LENGTHS) {
      noKeys(all, 0x61626364, n);
      noKeys(all, 0, n);
    }
    told(all);
    drawn(all);
    numbers(all);
    turnedRound(all);
    return all;
  }

  private static void put(List<Refused> all, String name, Bench.Call call) { all.add(new Refused(name, call, NONE)); }

  private static void refuse(List<Refused> all, String name, Bench.Call call) { all.add(new Refused(name, call, 0)); }

  private static void noKeys(List<Refused> all, int a, int n) {
    String key = "(" + a + ", 0, " + n;
    put(all, "add" + key, x -> x.add(a, 0, n));
    put(all, "remove" + key, x -> x.remove(a, 0, n));
    put(all, "has" + key + ", 0", x -> x.has(a, 0, n, 0));
    put(all, "has" + key + ", 1", x -> x.has(a, 0, n, 1));
    put(all, "may" + key, x -> x.may(a, 0, n));
    put(all, "leafOf" + key, x -> x.leafOf(a, 0, n));
    put(all, "seek" + key, x -> x.seek(a, 0, n));
    put(all, "seekBack" + key, x -> x.seekBack(a, 0, n));
    put(all, "question" + key, x -> x.question(a, 0, n));
    for (int what = 0; what < 3; what++) {
      int w = what;
      put(all, "spread" + key + ", " + w, x -> x.spread(a, 0, n, w));
    }
    put(all, "range from" + key, x -> x.range(a, 0, n, -1, -1, 8));
    put(all, "range to" + key, x -> x.range(0, 0, 1, a, 0, n));
    put(all, "range of" + key, x -> x.range(a, 0, n, a, 0, n));
    put(all, "meets from" + key, x -> x.meets(a, 0, n, -1, -1, 8));
    put(all, "meets to" + key, x -> x.meets(0, 0, 1, a, 0, n));
    put(all, "meets of" + key, x -> x.meets(a, 0, n, a, 0, n));
    put(all, "holds from" + key, x -> x.holds(a, 0, n, -1, -1, 8));
    put(all, "holds to" + key, x -> x.holds(0, 0, 1, a, 0, n));
    put(all, "holds of" + key, x -> x.holds(a, 0, n, a, 0, n));
  }

  private static void told(List<Refused> all) {
    int[] least = {0, 0, 0, 1, 1};
    int[] most = {8, 8, 9, 64, 256};
    for (int what = 0; what < 5; what++) {
      int w = what;
      for (int v : new int[] {least[w] - 1, most[w] + 1, -1, LEAST, MOST}) {
        refuse(all, "set(" + w + ", " + v, x -> x.set(w, v) ? 1 : 0);
      }
    }
    for (int w : new int[] {-1, 6, 7, LEAST, MOST}) {
      for (int v : new int[] {-1, 0, 1, 4, LEAST, MOST}) {
        refuse(all, "set(" + w + ", " + v, x -> x.set(w, v) ? 1 : 0);
      }
    }
    for (int n : new int[] {-1, 161, LEAST, MOST}) refuse(all, "end(" + n, x -> x.end(n) ? 1 : 0);
  }

  private static void drawn(List<Refused> all) {
    for (int n : new int[] {0, -1, 65, 66, LEAST, MOST}) put(all, "fill(" + n + ", 8", x -> x.fill(n, 8));
    for (int n : new int[] {0, -1, 201, 202, LEAST, MOST}) {
      put(all, "storm(" + n + ", 8", x -> x.storm(n, 8));
      put(all, "stormRange(" + n + ", 8, 0", x -> x.stormRange(n, 8, 0));
    }
    for (int m : NO_LENGTHS) {
      put(all, "fill(1, " + m, x -> x.fill(1, m));
      put(all, "storm(1, " + m, x -> x.storm(1, m));
      put(all, "stormRange(1, " + m + ", 0", x -> x.stormRange(1, m, 0));
    }
    for (int w : new int[] {-1, 256, 257, LEAST, MOST}) put(all, "stormRange(1, 8, " + w, x -> x.stormRange(1, 8, w));
  }

  /** Numbers that are none of a leaf, a node, .. and kinds of answers that there are not. */
  private static void numbers(List<Refused> all) {
    for (int i : new int[] {-1, 65, 1000, LEAST, MOST}) {
      for (int w : new int[] {0, 1, 2, 3, 4, 5, 6, 10}) put(all, "leaf(" + i + ", " + w, x -> x.leaf(i, w));
      for (int w = 0; w < 7; w++) nodeOf(all, i, w);
      put(all, "leafAt(" + i, x -> x.leafAt(i));
      put(all, "child(" + i + ", 97", x -> x.child(i, 97));
      if (i != NONE) put(all, "report(" + i, x -> x.report(i));
    }
    for (int i : new int[] {-2, 64}) put(all, "report(" + i, x -> x.report(i));
    for (int i : new int[] {-1, LEAST, MOST}) {
      put(all, "bit(" + i, x -> x.bit(i));
      put(all, "rank(" + i, x -> x.rank(i));
      put(all, "select(" + i, x -> x.select(i));
      put(all, "sign(" + i, x -> x.sign(i));
      for (int m = 1; m < 8; m++) freeOf(all, i, m);
    }
    for (int m : new int[] {0, 8, 9, -1, LEAST, MOST}) {
      put(all, "cover(" + m, x -> x.cover(m));
      put(all, "loose(" + m, x -> x.loose(m));
      put(all, "free(0, " + m, x -> x.free(0, m));
      for (int w = 0; w < 3; w++) spreadOf(all, m == 0 ? 0 : Math.max(m, 8), w);
    }
    for (int w : new int[] {-1, 17, 18, LEAST, MOST}) {
      for (int what = 0; what < 3; what++) tunedOf(all, w, what);
    }
    kinds(all);
  }

  private static void nodeOf(List<Refused> all, int i, int w) {
    put(all, "node(" + i + ", " + w, x -> x.node(i, w));
    if (w < 5) put(all, "level(" + i + ", " + w, x -> x.level(i, w));
    if (w < 4 && i != 65) put(all, "item(" + i + ", " + w, x -> x.item(i, w));
  }

  private static void freeOf(List<Refused> all, int i, int m) { put(all, "free(" + i + ", " + m, x -> x.free(i, m)); }

  private static void spreadOf(List<Refused> all, int n, int w) {
    put(all, "spread of " + n + " bytes, " + w, x -> x.spread(0x61000000, 0, n, w));
  }

  private static void tunedOf(List<Refused> all, int w, int what) {
    put(all, "tuned(" + w + ", " + what, x -> x.tuned(w, what));
  }

  private static void kinds(List<Refused> all) {
    for (int w : new int[] {-1, 7, 100, LEAST, MOST}) {
      put(all, "bits(" + w, x -> x.bits(w));
      put(all, "node(0, " + w, x -> x.node(0, w));
      put(all, "leaf(0, " + w, x -> x.leaf(0, w));
      put(all, "level(0, " + w, x -> x.level(0, w));
      put(all, "item(0, " + w, x -> x.item(0, w));
      put(all, "account(" + w, x -> x.account(w));
    }
    put(all, "account(6", x -> x.account(6));
    put(all, "level(0, 5", x -> x.level(0, 5));
    put(all, "item(0, 4", x -> x.item(0, 4));
    for (int w : new int[] {8, 9, 18, 19}) put(all, "leaf(0, " + w, x -> x.leaf(0, w));
    for (int w : new int[] {-1, 3, LEAST, MOST}) {
      put(all, "since(" + w, x -> x.since(w));
      put(all, "tuned(4, " + w, x -> x.tuned(4, w));
      put(all, "spread(.., " + w, x -> x.spread(0x61000000, 0, 1, w));
    }
    for (int w : new int[] {-1, 2, LEAST, MOST}) {
      put(all, "least(" + w, x -> x.least(w));
      put(all, "has(.., " + w, x -> x.has(0x62000000, 0, 1, w));
    }
    for (int w : new int[] {-1, 21, 22, LEAST, MOST}) {
      all.add(new Refused("look(" + w, x -> x.look(w), -100000000));
    }
  }

  private static void turnedRound(List<Refused> all) {
    String[][] pairs = {{"b", "a"}, {"ab", "a"}, {"a\0", "a"}, {"\200", "\177"}, {"\377", "\0"}, {"abcdefgi", "abcdefgh"},
        {"abcdefgh", "abcdefg"}, {"a\200", "a\177"}, {"abcd\200", "abcd\177"}};
    for (String[] p : pairs) {
      put(all, "range " + p[0] + " " + p[1], x -> Bench.range(x, p[0], p[1]));
      put(all, "meets " + p[0] + " " + p[1], x -> Bench.meets(x, p[0], p[1]));
      put(all, "holds " + p[0] + " " + p[1], x -> Bench.holds(x, p[0], p[1]));
    }
  }

  // ---- what is refused in one scene ----

  private static List<Refused> ofNothing() {
    List<Refused> all = noLeaves();
    refuse(all, "image(false)", x -> x.image(false) ? 1 : 0);
    refuse(all, "end(1)", x -> x.end(1) ? 1 : 0);
    put(all, "sign(0)", x -> x.sign(0));
    put(all, "remove", x -> Bench.remove(x, "a"));
    put(all, "has 0", x -> Bench.has(x, "a", 0));
    return all;
  }

  private static List<Refused> ofEmptied() {
    List<Refused> all = noLeaves();
    refuse(all, "image(false)", x -> x.image(false) ? 1 : 0);
    put(all, "sign(1)", x -> x.sign(1));
    put(all, "add b", x -> Bench.add(x, "b"));
    put(all, "remove a", x -> Bench.remove(x, "a"));
    return all;
  }

  private static List<Refused> noLeaves() {
    List<Refused> all = new ArrayList<>();
    put(all, "leafOf", x -> Bench.leafOf(x, "a"));
    put(all, "seek", x -> Bench.seek(x, "\0"));
    put(all, "seekBack", x -> Bench.seekBack(x, "\377\377\377\377\377\377\377\377"));
    put(all, "has 1", x -> Bench.has(x, "a", 1));
    for (int what = 0; what < 18; what++) {
      int w = what;
      put(all, "leaf(0, " + w, x -> x.leaf(0, w));
      put(all, "node(0, " + w, x -> x.node(0, w));
      put(all, "level(0, " + w, x -> x.level(0, w));
      put(all, "item(0, " + w, x -> x.item(0, w));
      put(all, "child(0, " + w, x -> x.child(0, w));
    }
    put(all, "leafAt(0)", x -> x.leafAt(0));
    put(all, "bit(0)", x -> x.bit(0));
    put(all, "rank(1)", x -> x.rank(1));
    put(all, "select(0)", x -> x.select(0));
    put(all, "free(1, 1)", x -> x.free(1, 1));
    put(all, "report(0)", x -> x.report(0));
    return all;
  }

  /** Five leaves, four nodes, three levels, six items; the row of marks; eleven signs or so. */
  private static List<Refused> ofOrdinary() {
    List<Refused> all = new ArrayList<>();
    for (String k : new String[] {"ab", "abc", "b", "bcd", "bce", "c"}) put(all, "add " + k, x -> Bench.add(x, k));
    for (String k : new String[] {"a", "abcd", "bc", "d"}) put(all, "remove " + k, x -> Bench.remove(x, k));
    put(all, "add what is there, by other bytes behind it", x -> x.add(0x6162ffff, -1, 2));
    for (int i = 0; i < 3; i++) behindAll(all, i);
    put(all, "child(0, 256", x -> x.child(0, 256));
    put(all, "child(0, -1", x -> x.child(0, -1));
    put(all, "leafOf c", x -> Bench.leafOf(x, "c"));
    put(all, "seek c", x -> Bench.seek(x, "c"));
    put(all, "seekBack A", x -> Bench.seekBack(x, "A"));
    return all;
  }

  /** One, two, three behind the last of all that an ordinary object has. */
  private static void behindAll(List<Refused> all, int i) {
    put(all, "leaf(5 + " + i, x -> x.leaf(5 + i, 0));
    put(all, "leafAt(5 + " + i, x -> x.leafAt(5 + i));
    put(all, "node(4 + " + i, x -> x.node(4 + i, 0));
    put(all, "child(4 + " + i, x -> x.child(4 + i, 97));
    put(all, "level(3 + " + i, x -> x.level(3 + i, 0));
    put(all, "item(6 + " + i, x -> x.item(6 + i, 0));
    put(all, "bit(6 + " + i, x -> x.bit(6 + i));
    put(all, "rank(7 + " + i, x -> x.rank(7 + i));
    put(all, "select(3 + " + i, x -> x.select(3 + i));
    put(all, "free(6 + " + i, x -> x.free(6 + i, 1));
    put(all, "report(5 + " + i, x -> x.report(5 + i));
    put(all, "sign behind + " + i, x -> x.sign(Bench.latest(x).length() + i));
    refuse(all, "end(6 + " + i, x -> x.end(6 + i) ? 1 : 0);
  }

  private static List<Refused> ofFull() {
    List<Refused> all = new ArrayList<>();
    put(all, "add a new one", x -> Bench.add(x, "zzzzzzzz"));
    put(all, "add one that is there", x -> Bench.add(x, "\0"));
    put(all, "add one ahead of all", x -> Bench.add(x, "\0\0"));
    put(all, "question 17", x -> Bench.question(x, "a"));
    put(all, "feed", x -> x.feed(1, 2, 3, 4, 5));
    refuse(all, "end(161", x -> x.end(161) ? 1 : 0);
    put(all, "leaf(64", x -> x.leaf(64, 0));
    put(all, "leafAt(64", x -> x.leafAt(64));
    put(all, "free(65", x -> x.free(65, 1));
    put(all, "node(1", x -> x.node(1, 0));
    put(all, "item(64", x -> x.item(64, 0));
    put(all, "level(1", x -> x.level(1, 0));
    return all;
  }

  // ---- what only asks ----

  private static List<Refused> asking() {
    List<Refused> all = new ArrayList<>();
    for (String k : new String[] {"a", "ab", "bcd", "bcx", "\0", "\377"}) {
      put(all, "has " + k, x -> Bench.has(x, k, 0) * 100L + Bench.has(x, k, 1));
      put(all, "leafOf " + k, x -> Bench.leafOf(x, k));
      put(all, "meets " + k, x -> Bench.meets(x, k, "\377\377"));
      put(all, "holds " + k, x -> Bench.holds(x, k, "\377\377"));
      put(all, "seek " + k, x -> Bench.seek(x, k));
      put(all, "seekBack " + k, x -> Bench.seekBack(x, k));
      put(all, "spread " + k, x -> Bench.spread(x, k, 0) * 1000L + Bench.spread(x, k, 1));
    }
    for (int i = 0; i < 3; i++) {
      int k = i;
      put(all, "leaf " + k, x -> x.leaf(k, 2) + x.leaf(k, 4) + x.leafAt(k));
      put(all, "node " + k, x -> x.node(k, 6) + x.child(k, 97) + x.level(k, 4) + x.item(k, 0));
      put(all, "bit " + k, x -> x.bit(k) + x.rank(k) + x.select(k));
      put(all, "since " + k, x -> x.since(k));
      put(all, "tuned " + k, x -> x.tuned(16, k) + x.tuned(0, k));
      put(all, "free " + k, x -> x.free(k, 7) + x.cover(7) + x.loose(7));
      put(all, "bits " + k, x -> x.bits(k) + x.least(k) + x.account(k) + x.look(k) + x.sign(k));
    }
    return all;
  }
}
