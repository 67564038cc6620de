/**
 * The edges that part 2 of the document names: beginnings, nodes, upper levels, rows of bits, tails. Right at each, one below it,
 * one above it; what a refused call leaves as it was is in RefusedTests.
 */
public final class TreeEdges extends Bench {
  public static void main(String[] args) {
    beginnings();
    nodesAndLevels();
    upperLevels();
    rowsOfBits();
    tails();
    end("TreeEdges");
  }

  private static void leaf(BeginningsFilter x, int i, int length, int ended, int common) {
    due("bytes of leaf " + i, x.leaf(i, 0), length);
    due("ended " + i, x.leaf(i, 1), ended);
    due("common of " + i, x.leaf(i, 6), common);
  }

  private static void beginnings() {
    says("COMMON: 0 if there is none");
    BeginningsFilter x = built("abcdefgh");
    leaf(x, 0, 1, 0, 0);
    x = built("a");
    leaf(x, 0, 1, 0, 0);
    x = built("a", "b");
    leaf(x, 0, 1, 0, 0);
    leaf(x, 1, 1, 0, 0);
    says("COMMON: the greater one of the KEY ahead and the KEY behind");
    x = built("aaab", "aabb", "abbb");
    leaf(x, 0, 3, 0, 2);
    leaf(x, 1, 3, 0, 2);
    leaf(x, 2, 2, 0, 1);
    x = built("aaa", "abb", "abc");
    leaf(x, 0, 2, 0, 1);
    leaf(x, 1, 3, 0, 2);
    leaf(x, 2, 3, 0, 2);
    says("Is COMMON its length: its BEGINNING is all of it, it is ENDED. Else COMMON and 1 bytes");
    x = built("ab", "abc");
    leaf(x, 0, 2, 1, 2);
    leaf(x, 1, 3, 0, 2);
    x = built("abc", "abd");
    leaf(x, 0, 3, 0, 2);
    x = built("abcdefg", "abcdefgh");
    leaf(x, 0, 7, 1, 7);
    leaf(x, 1, 8, 0, 7);
    x = built("abcdefgh", "abcdefgi");
    leaf(x, 0, 8, 0, 7);
    leaf(x, 1, 8, 0, 7);
    due("eighth byte", x.leaf(1, 17), 'i');
    x = built("abcdefgh", "abcdefhh");
    leaf(x, 0, 7, 0, 6);
    due("no eighth byte", x.leaf(0, 17), NONE);
    due("seventh byte", x.leaf(0, 16), 'g');
    x = built("a", "aa", "aaa");
    leaf(x, 0, 1, 1, 1);
    leaf(x, 1, 2, 1, 2);
    leaf(x, 2, 3, 0, 2);
    x = built("a", "abc", "ac");
    leaf(x, 0, 1, 1, 1);
    leaf(x, 1, 2, 0, 1);
    leaf(x, 2, 2, 0, 1);
    x = built("\0", "\0\0");
    leaf(x, 0, 1, 1, 1);
    leaf(x, 1, 2, 0, 1);
    due("a byte of 0", x.leaf(1, 11), 0);
    due("none behind", x.leaf(0, 11), NONE);
    bytesOfBeginnings();
  }

  private static void bytesOfBeginnings() {
    says("leaf: 10 .. 17 the bytes of its BEGINNING (NONE behind them); NONE for another what");
    for (int n = 1; n <= 8; n++) {
      String front = "\200\377\0\1\177abc".substring(0, n - 1);
      BeginningsFilter x = built(front + "\3", front + "\4");
      for (int i = 0; i < 8; i++) {
        int want = i < n - 1 ? front.charAt(i) : i == n - 1 ? 4 : NONE;
        due("byte " + i, x.leaf(1, 10 + i), want);
      }
      for (int what : new int[] {-1, 7, 8, 9, 18, 19, LEAST, MOST}) due("what " + what, x.leaf(1, what), NONE);
      due("leaf 2", x.leaf(2, 10), NONE);
      due("leaf -1", x.leaf(-1, 10), NONE);
    }
  }

  private static void nodesAndLevels() {
    says("NODES: those rows of bytes (of none, too) that are shorter than some BEGINNING");
    BeginningsFilter x = built();
    due("none without leaves", x.look(10), 0);
    due("no levels", x.look(11), 0);
    due("node 0", x.node(0, 0), NONE);
    x = built("abcdefgh");
    due("one by one leaf", x.look(10), 1);
    due("one level", x.look(11), 1);
    due("its level", x.node(0, 0), 0);
    due("node 1", x.node(1, 0), NONE);
    due("node -1", x.node(-1, 0), NONE);
    due("level 0", x.level(0, 0), 1);
    due("level 1", x.level(1, 0), NONE);
    due("level -1", x.level(-1, 0), NONE);
    x = built("abcdefgh", "abcdefgi");
    due("eight levels", x.look(11), 8);
    due("eight nodes", x.look(10), 8);
    due("level 7", x.level(7, 1), 2);
    due("level 8", x.level(8, 1), NONE);
    due("the last node's level", x.node(7, 0), 7);
    due("node 8", x.node(8, 0), NONE);
    says("A NODE is an END, if it is the BEGINNING of an ENDED LEAF");
    x = built("abcdefg", "abcdefgh");
    due("eight levels", x.look(11), 8);
    due("an end", x.node(7, 3), 1);
    due("no end", x.node(6, 3), 0);
    due("its node", x.leaf(0, 5), 7);
    due("leaves at or below", x.node(7, 6), 2);
    due("one branch", x.node(7, 1), 1);
    due("the first is no end", x.node(0, 3), 0);
    children();
    mostNodes();
    levels();
    items();
  }

  private static void children() {
    says("child: the NODE that is the CHILD; -2 it leads to a LEAF; -3 it has no such BRANCH; NONE");
    BeginningsFilter x = built("\0", "\0\0", "\377\0", "\377\377", "\200");
    due("byte 0", x.child(0, 0), 1);
    due("byte 255", x.child(0, 255), 2);
    due("byte 128", x.child(0, 128), -2);
    due("byte 1", x.child(0, 1), -3);
    due("byte 254", x.child(0, 254), -3);
    due("an end is no branch", x.child(1, 255), -3);
    due("below", x.child(1, 0), -2);
    due("below", x.child(2, 0), -2);
    due("below", x.child(2, 255), -2);
    due("byte 256", x.child(0, 256), NONE);
    due("byte -1", x.child(1, -1), NONE);
    due("node 3", x.child(3, 0), NONE);
    due("node -1", x.child(-1, 0), NONE);
    due("byte least", x.child(0, LEAST), NONE);
    due("byte most", x.child(0, MOST), NONE);
    x = built("a1", "a2", "b3", "b4");
    for (int octet = '1'; octet <= '4'; octet++) {
      due("not of the first node", x.child(0, octet), -3);
      due("of the node of a", x.child(1, octet), octet <= '2' ? -2 : -3);
      due("of the node of b", x.child(2, octet), octet <= '2' ? -3 : -2);
    }
  }

  /** 32 pairs of eight bytes that differ at the first and, within a pair, at the last byte. */
  private static BeginningsFilter pairs(int dense, int ratio) {
    BeginningsFilter x = new BeginningsFilter();
    x.set(2, dense);
    x.set(3, ratio);
    for (int i = 0; i < 32; i++) {
      x.add(i * 8 << 24 | 0x808080, 0x80808000, 8);
      x.add(i * 8 << 24 | 0x808080, 0x808080ff, 8);
    }
    x.build();
    return x;
  }

  private static void mostNodes() {
    says("the most NODES that 64 KEYS can have");
    BeginningsFilter x = pairs(0, 1);
    due("nodes", x.look(10), 225);
    due("levels", x.look(11), 8);
    due("items", x.look(14), 288);
    due("the last node", x.node(224, 0), 7);
    due("its branches", x.node(224, 1), 2);
    due("its leaves", x.node(224, 5), 62);
    due("behind", x.node(225, 0), NONE);
    due("the last item", x.item(287, 0), 255);
    due("its node", x.item(287, 3), 224);
    due("behind", x.item(288, 0), NONE);
    due("along", x.child(0, 248), 32);
    due("along", x.child(32, 128), 64);
    due("along", x.child(192, 128), 224);
    due("to a leaf", x.child(224, 255), -2);
    due("bits", x.bits(1), 3168);
    due("all bytes", x.look(20), 512);
    for (int i = 0; i < 64; i += 21) {
      due("place", x.leaf(i, 4), i);
      due("leafAt", x.leafAt(i), i);
    }
    due("leafAt behind", x.leafAt(64), NONE);
    due("the filter", text(x, NONE), "s1:32,s32:32,s32:32,s32:32,s32:32,s32:32,s32:32,s32:64.");
    x = pairs(8, 1);
    due("all upper", x.look(13), 225);
    due("no items", x.look(14), 0);
    due("bits", x.bits(0), 115425);
    due("labels", x.bits(5), 57600);
    due("ones", x.bits(6), 288);
    due("last bit", x.bit(57599), 1);
    due("behind", x.bit(57600), NONE);
    due("rank", x.rank(57600), 288);
    due("rank", x.rank(57599), 287);
    due("behind", x.rank(57601), NONE);
    due("select", x.select(287), 57599);
    due("behind", x.select(288), NONE);
    due("by RATIO 5 one level", pairs(9, 5).look(12), 1);
    due("by RATIO 6 none", pairs(9, 6).look(12), 0);
  }

  private static void levels() {
    says("level: 2 LEAVES whose BEGINNINGS have one byte more than LEVEL or that are ENDED with just so many");
    BeginningsFilter x = built("none", new int[] {4, 4, 1}, "a", "ba", "bb", "c", "ca");
    due("a and c$", x.level(0, 2), 2);
    due("ba, bb, ca and c$", x.level(1, 2), 4);
    due("behind", x.level(2, 2), NONE);
    due("upper", x.level(0, 3), 1);
    due("not upper", x.level(1, 3), 0);
    due("bits", x.level(0, 4), 513);
    due("bits", x.level(1, 4), 44);
    due("branches", x.level(1, 1), 3);
    due("what 5", x.level(0, 5), NONE);
    due("what -1", x.level(0, -1), NONE);
    x = built("abcdefgh", "abcdefgi");
    due("eight bytes", x.level(7, 2), 2);
    due("seven", x.level(6, 2), 0);
    says("level: 0 NODES, 4 BITS of its NODES, UPPER or not");
    for (int dense = 0; dense < 4; dense++) {
      x = built("none", new int[] {4, 4, dense}, WORDS);
      int[] nodes = {1, 2, 1};
      int[] bits = {22, 44, 22};
      for (int l = 0; l < 3; l++) {
        due("nodes of " + l, x.level(l, 0), nodes[l]);
        due("bits of " + l, x.level(l, 4), l < dense ? 513 * nodes[l] : bits[l]);
      }
    }
    wholeTree();
  }

  /** The words have the nodes (none), a$, b$, ab$; by whatever was built before it. */
  private static void wholeTree() {
    says("node: BRANCHES, how many of these have a CHILD, its first LEAF, how many at or below it; BUILT anew");
    BeginningsFilter x = pairs(3, 1);
    for (int i = 0; i < 32; i++) {
      x.remove(i * 8 << 24 | 0x808080, 0x80808000, 8);
      x.remove(i * 8 << 24 | 0x808080, 0x808080ff, 8);
    }
    for (int dense = 0; dense < 3; dense++) {
      for (String k : WORDS) add(x, k);
      x.set(2, dense);
      due("leaves", x.build(), 5);
      question(x, "\0\0\0\0\0\0\0\0");
      due("nothing is left of the leaves before", x.tuned(0, 2), 0);
      due("nor below them", x.level(7, 2), NONE);
      int[][] want = {{0, 2, 2, 0, 1, 0, 5}, {1, 1, 1, 1, 2, 0, 3}, {1, 1, 0, 1, 2, 3, 2}, {2, 1, 0, 1, 3, 1, 2}};
      for (int i = 0; i < 4; i++) {
        for (int what = 0; what < 7; what++) {
          int due = what == 4 ? want[i][4] <= dense ? 1 : 0 : want[i][what];
          due("node " + i + " " + what, x.node(i, what), due);
        }
      }
      due("behind", x.node(4, 0), NONE);
      due("what 7", x.node(0, 7), NONE);
      due("what -1", x.node(0, -1), NONE);
      due("along a", x.child(0, 'a'), 1);
      due("along b", x.child(0, 'b'), 2);
      due("along ab", x.child(1, 'b'), 3);
      due("to abc", x.child(3, 'c'), -2);
      due("ended", x.look(19), 3);
      due("bytes", x.look(20), 9);
      due("labels", x.bits(6), dense == 0 ? 0 : 2 * dense);
      due("items", x.look(14), 8 - (dense == 0 ? 0 : 2 + 4 * (dense - 1)));
    }
  }

  private static void items() {
    says("item: 0 its byte (an END: NONE); NONE if there is none such");
    BeginningsFilter x = built("none", new int[] {4, 4, 0}, "\0", "\0\0", "\377");
    int[][] want = {{0, 0, 1, 0}, {255, 0, 0, 0}, {NONE, 1, 0, 1}, {0, 0, 0, 1}};
    for (int i = 0; i < 4; i++) {
      for (int what = 0; what < 4; what++) due("item " + i + " " + what, x.item(i, what), want[i][what]);
      due("what 4", x.item(i, 4), NONE);
      due("what -1", x.item(i, -1), NONE);
    }
    due("item 4", x.item(4, 1), NONE);
    due("item -1", x.item(-1, 1), NONE);
  }

  private static void upperLevels() {
    says("UPPER: as many as DENSE tells (LEVELS at most)");
    String[] three = {"aaa", "aab", "b"};
    for (int dense = 0; dense <= 8; dense++) {
      BeginningsFilter x = built("none", new int[] {4, 4, dense, 1}, three);
      due("upper by " + dense, x.look(12), Math.min(dense, 3));
      due("upper nodes by " + dense, x.look(13), Math.min(dense, 3));
      for (int i = 0; i < 3; i++) {
        due("level " + i, x.level(i, 3), i < dense ? 1 : 0);
        due("node " + i, x.node(i, 4), i < dense ? 1 : 0);
      }
      due("none of no keys", built("none", new int[] {4, 4, dense, 1}).look(12), 0);
      due("eight levels", built("none", new int[] {4, 4, dense, 1}, "abcdefgh", "abcdefgi").look(12), dense);
    }
    says("by 9 the most for which RATIO times all bits of UPPER NODES are no more than those of all others");
    due("of no keys", built("none", new int[] {4, 4, 9, 1}).look(12), 0);
    due("46 items: 506 bits", below(1, 46, 0).look(12), 0);
    due("47 items: 517 bits", below(1, 47, 0).look(12), 1);
    due("47 by ratio 2", below(2, 47, 0).look(12), 0);
    due("93 items: 1023 bits, by 2 times 513", below(2, 0, 31).look(12), 0);
    due("94 items: 1034 bits, by 2 times 513", below(2, 1, 31).look(12), 1);
    due("94 items by ratio 3", below(3, 1, 31).look(12), 0);
    due("two levels by 94 items below them", twoUpper(1).look(12), 2);
    due("but one by 93", twoUpper(0).look(12), 1);
    for (int ratio : new int[] {63, 64}) due("ratio " + ratio, below(ratio, 0, 32).look(12), 0);
    bitsOfNodes();
  }

  /** Below the first node one node with so many leaves and so many nodes of two leaves each. */
  private static BeginningsFilter below(int ratio, int singles, int twos) {
    BeginningsFilter x = new BeginningsFilter();
    x.set(3, ratio);
    for (int i = 0; i < singles; i++) x.add(0x05000000 | i << 16, 0, 2);
    for (int i = 0; i < twos; i++) {
      x.add(0x05000000 | 100 + i << 16 | 1 << 8, 0, 3);
      x.add(0x05000000 | 100 + i << 16 | 2 << 8, 0, 3);
    }
    x.build();
    return x;
  }

  private static BeginningsFilter twoUpper(int singles) {
    BeginningsFilter x = new BeginningsFilter();
    x.set(3, 1);
    for (int i = 0; i < singles; i++) x.add(0x05050000 | i << 8, 0, 3);
    for (int i = 0; i < 31; i++) {
      x.add(0x05050001 | 100 + i << 8, 0, 4);
      x.add(0x05050002 | 100 + i << 8, 0, 4);
    }
    x.build();
    return x;
  }

  private static void bitsOfNodes() {
    says("BITS: an UPPER NODE: 513; another one: 11 for each BRANCH, and 11 if it is an END. Each LEAF: H + R");
    int[][] want = {{0, 88}, {513, 66}, {1539, 22}, {2052, 0}, {2052, 0}};
    for (int dense = 0; dense < 5; dense++) {
      BeginningsFilter x = built("both", new int[] {8, 8, dense}, WORDS);
      due("upper", x.bits(0), want[dense][0]);
      due("others", x.bits(1), want[dense][1]);
      due("tails", x.bits(2), 80);
      due("all", x.bits(3), want[dense][0] + want[dense][1] + 80);
      due("keys", x.bits(4), 80);
      due("least", x.least(0), 0);
      due("least", x.least(1), 168);
    }
    BeginningsFilter x = new BeginningsFilter();
    for (int what = 0; what < 7; what++) due("bits " + what + " of none", x.bits(what), 0);
    due("bits 7", x.bits(7), NONE);
    due("bits -1", x.bits(-1), NONE);
    due("64 keys of 8 bytes", pairs(0, 1).bits(4), 4096);
    says("least: of several the least; 0 .. LEVELS");
    x = new BeginningsFilter();
    due("of no levels", x.least(0), 0);
    due("of no levels", x.least(1), 0);
    due("46 items: 506 bits are fewer than 513", wide(46).least(0), 0);
    due("506", wide(46).least(1), 506);
    due("47 items: 517 bits are more than 513", wide(47).least(0), 1);
    due("513", wide(47).least(1), 513);
    x = new BeginningsFilter();
    for (int i = 0; i < 48; i++) x.add(0x05000000 | i << 16, 0, 2);
    x.build();
    // By no upper levels 11 and 528, by one 513 and 528, by two 1026.
    due("the upper one alone is of no use", x.least(0), 0);
    due("539", x.least(1), 539);
    due("both upper are many", x.look(11), 2);
    for (int wide = 45; wide <= 46; wide++) {
      x = new BeginningsFilter();
      for (int i = 0; i < wide; i++) x.add(i << 24, 0, 1);
      x.add(0xf0000000, 0, 2);
      x.add(0xf0010000, 0, 2);
      x.build();
      due("of two levels, " + (wide + 1) + " branches in the first", x.least(0), wide == 45 ? 0 : 1);
      due("and two in the second", x.least(1), wide == 45 ? 48 * 11 : 513 + 22);
    }
  }

  private static void rowsOfBits() {
    says("ROWS OF BITS: of each UPPER NODE 256; the first and the last bit of each node");
    String[] keys = {"\0", "\0\0", "\0\377", "\377\0", "\377\377", "\200"};
    BeginningsFilter x = built("none", new int[] {4, 4, 8}, keys);
    // Nodes: none, 00 (an end), ff.
    oneRow(x, "labels", 768, new int[] {0, 128, 255, 256, 511, 512, 767}, new int[] {1, 127, 254, 257, 510, 513, 766});
    oneRow(x, "kids", 768, new int[] {0, 255}, new int[] {1, 128, 254, 256, 511, 512, 767});
    oneRow(x, "ends", 3, new int[] {1}, new int[] {0, 2});
    oneRow(x, "marks", 0, new int[0], new int[0]);
    oneRow(x, "lower", 0, new int[0], new int[0]);
    oneRow(x, "firsts", 0, new int[0], new int[0]);
    x = built("none", new int[] {4, 4, 0}, keys);
    oneRow(x, "labels", 0, new int[0], new int[0]);
    oneRow(x, "kids", 0, new int[0], new int[0]);
    oneRow(x, "ends", 0, new int[0], new int[0]);
    // Items: 00, 80, ff / the end, 00, ff / 00, ff.
    oneRow(x, "marks", 8, new int[] {3}, new int[] {0, 1, 2, 4, 5, 6, 7});
    oneRow(x, "lower", 8, new int[] {0, 2}, new int[] {1, 3, 4, 5, 6, 7});
    oneRow(x, "firsts", 8, new int[] {0, 3, 6}, new int[] {1, 2, 4, 5, 7});
    x = built("none", new int[] {4, 4, 1}, keys);
    oneRow(x, "labels", 256, new int[] {0, 128, 255}, new int[] {1, 127, 129, 254});
    oneRow(x, "kids", 256, new int[] {0, 255}, new int[] {1, 128, 254});
    oneRow(x, "ends", 1, new int[0], new int[] {0});
    oneRow(x, "marks", 5, new int[] {0}, new int[] {1, 2, 3, 4});
    oneRow(x, "lower", 5, new int[0], new int[] {0, 1, 2, 3, 4});
    oneRow(x, "firsts", 5, new int[] {0, 3}, new int[] {1, 2, 4});
    oneRow(x, "kids", 256, new int[] {0, 255}, new int[] {1, 128, 254});
    oneRow(x, "labels", 256, new int[] {0, 128, 255}, new int[] {1, 127, 129, 254});
    oneRow(built(), "labels", 0, new int[0], new int[0]);
    x = built("none", new int[] {4, 4, 0}, "q");
    oneRow(x, "firsts", 1, new int[] {0}, new int[0]);
    oneRow(x, "marks", 1, new int[0], new int[] {0});
    x = built("none", new int[] {4, 4, 1}, "q");
    oneRow(x, "labels", 256, new int[] {'q'}, new int[] {'q' - 1, 'q' + 1});
    // Behind the upper node: a / a, b, then a leads to a node once more, then a, b.
    x = built("none", new int[] {4, 4, 1}, "aaaa", "aaab", "ab");
    oneRow(x, "lower", 5, new int[] {0, 2}, new int[] {1, 3, 4});
    oneRow(x, "firsts", 5, new int[] {0, 2, 3}, new int[] {1, 4});
    says("PLACE: by UPPER NODES, then by ITEMS; leafAt: NONE if there is none such");
    for (int dense = 0; dense < 3; dense++) {
      BeginningsFilter y = built("none", new int[] {4, 4, dense}, keys);
      // In order the leaves are 00$, 00 00, 00 ff, 80, ff 00, ff ff.
      int[] byPlace = {3, 0, 1, 2, 4, 5};
      for (int i = 0; i < 6; i++) {
        due("place " + i, y.leafAt(i), byPlace[i]);
        due("of leaf " + byPlace[i], y.leaf(byPlace[i], 4), i);
      }
      due("place 6", y.leafAt(6), NONE);
      due("place -1", y.leafAt(-1), NONE);
    }
    x = wide(64);
    for (int i = 0; i < 64; i++) {
      due("place " + i, x.leafAt(i), i);
      due("of leaf " + i, x.leaf(i, 4), i);
    }
    due("place 64", x.leafAt(64), NONE);
    says("leaf: 5 the NODE from which its last byte leads (ENDED: that it is)");
    x = built(WORDS);
    int[] nodes = {1, 3, 3, 2, 2};
    for (int i = 0; i < 5; i++) due("node of leaf " + i, x.leaf(i, 5), nodes[i]);
    due("of one alone the first", built("q").leaf(0, 5), 0);
  }

  private static void oneRow(BeginningsFilter x, String name, int length, int[] ones, int[] noughts) {
    row(x, name);
    due(name + " length", x.bits(5), length);
    due(name + " ones", x.bits(6), ones.length);
    for (int i : ones) due(name + " bit " + i, x.bit(i), 1);
    for (int i : noughts) due(name + " bit " + i, x.bit(i), 0);
    due(name + " behind", x.bit(length), NONE);
    due(name + " ahead", x.bit(-1), NONE);
    for (int k = 0; k < ones.length; k++) {
      due(name + " select " + k, x.select(k), ones[k]);
      due(name + " rank ahead", x.rank(ones[k]), k);
      due(name + " rank behind", x.rank(ones[k] + 1), k + 1);
    }
    due(name + " select behind", x.select(ones.length), NONE);
    due(name + " select ahead", x.select(-1), NONE);
    due(name + " rank 0", x.rank(0), 0);
    due(name + " rank all", x.rank(length), ones.length);
    due(name + " rank behind", x.rank(length + 1), NONE);
    due(name + " rank ahead", x.rank(-1), NONE);
  }

  private static void tails() {
    says("HASH: (x xor the byte) times 16777619 (an int, which wraps); zeros come in; its lowest H bits");
    String[] keys = {"\0", "\177", "\200", "\377", "abcdefgh", ALL_255, "\0\0\0\0\0\0\0\0"};
    for (int salt : new int[] {0, 1, -1, MOST, LEAST, 0x7fff, 0x8000, 0x811c9dc5}) {
      for (int h : new int[] {0, 1, 4, 7, 8}) {
        BeginningsFilter x = built("hash", new int[] {h, 8, 0, 1, 1, salt}, keys);
        for (String k : keys) {
          int leaf = has(x, k, 1);
          due("hash of " + hex(k) + " by " + salt, x.leaf(leaf, 2), hash(salt, k) % (1L << h));
          due("no next", x.leaf(leaf, 3), 0);
          due("may", may(x, k), 1);
        }
      }
    }
    hashesBySalt();
    says("NEXT: the highest R bits of the byte right behind the BEGINNING (0 if there is none)");
    for (int r = 0; r <= 8; r++) {
      for (int next : new int[] {0, 1, 127, 128, 254, 255}) {
        BeginningsFilter x = built("real", new int[] {8, r, 0}, key('a'), key('b', next));
        due("none behind", x.leaf(0, 3), 0);
        due("next of " + next + " by " + r, x.leaf(1, 3), next >> 8 - r);
        due("no hash", x.leaf(1, 2), 0);
      }
    }
    BeginningsFilter x = built("real", new int[] {8, 8, 0}, "a", "a\377", "abcdefgh", "abcdefgi");
    due("an ended one has none", x.leaf(0, 3), 0);
    due("nor one of all its bytes", x.leaf(3, 3), 0);
    due("nor one of eight bytes", x.leaf(1, 3), 0);
  }

  /** A key is denied by another hash, though it is possible; by H bits those that are alike are let through. */
  private static void hashesBySalt() {
    for (int h : new int[] {0, 1, 8}) {
      BeginningsFilter x = built("hash", new int[] {h, 0, 0, 1, 1, -7}, "k");
      long own = hash(-7, "k") % (1L << h);
      for (int i = 0; i < 256; i++) {
        String k = key('k', i);
        due("may k " + i + " by " + h, may(x, k), hash(-7, k) % (1L << h) == own ? 1 : 0);
      }
    }
  }
}
