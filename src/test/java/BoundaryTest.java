/**
 * One test for each sentence of the document that names a boundary case: the test quotes the
 * sentence, and has the last input that is still fine and the first that is not. The answers were
 * worked out by hand. No object here is used for more than 512 calls.
 */
public final class BoundaryTest extends Trial {
  private static final int MIN = Integer.MIN_VALUE;
  private static final int MAX = Integer.MAX_VALUE;
  /** What is no number of anything; the great ones would be one if only their low bits counted. */
  private static final int[] NEVER = {MIN, MIN + 1, MIN + 11, -65536, -256, -36, -13, -3, -2, 36, 37,
      255, 256, 257, 65536, 65537, 1 << 30, MAX - 1, MAX};

  private static final int[] ROOT = tree(-1, 0, 0);
  private static final int[] CHILD = tree(-1, 0, 0, 0, 1, 1);
  private static final int[] CHAIN = tree(-1, 0, 0, 0, 1, 1, 1, 2, 2);

  /** A root with eleven children, all of one type. */
  private static int[] star(int type) {
    int[] rows = new int[36];
    for (int n = 0; n < 12; n++) {
      rows[3 * n] = n == 0 ? -1 : 0;
      rows[3 * n + 1] = type;
      rows[3 * n + 2] = n;
    }
    return rows;
  }

  private static TwigMerge loaded(int[]... trees) {
    TwigMerge x = new TwigMerge();
    for (int t = 0; t < trees.length; t++) {
      load(x, t, trees[t]);
    }
    return x;
  }

  private static String partnersOf(int[] from, int[] to) {
    String both = found(from, to);
    return both.substring(0, both.indexOf(':'));
  }

  // What it is, and terms: trees.

  private static void calls() {
    about("An object is used for at most 512 calls");
    TwigMerge x = new TwigMerge();
    int made = 0;
    for (int t = 0; t < 3; t++) {
      int[] rows = star(t);
      for (int n = 0; n < 12; n++) {
        due("add", x.add(t, rows[3 * n], rows[3 * n + 1], rows[3 * n + 2]), n);
        made++;
      }
    }
    while (made + 4 < 512) {
      due("merge()", x.merge(), 0);
      due("diff(0, 1)", x.diff(0, 1), 24);
      due("replay(12)", x.replay(12), 24);
      made += 3;
    }
    due("call " + ++made, x.merge(), 0);
    while (made < 511) {
      due("call " + ++made, x.node(35, 1), 10);
    }
    due("call " + ++made, x.node(23, 0), 12);
    due("calls", made, 512);
  }

  private static void atMostTwelveNodes() {
    about("TREES .. each of at most 12 NODES, numbered 0, 1, .. as they were added");
    for (int t = 0; t < 3; t++) {
      TwigMerge x = new TwigMerge();
      load(x, t, star(3));
      due("a 13th node", x.add(t, 0, 3, 3), -1);
      due("a 13th node below the 12th", x.add(t, 11, 3, 3), -1);
      due("size", x.size(t), 12);
      due("the 12th node has no child", x.height(t, 11), 1);
      due("clear", x.clear(t), true);
      load(x, t, star(4));
      due("full again", x.add(t, 0, 3, 3), -1);
      due("the others are as they were", x.size((t + 1) % 3) + x.size((t + 2) % 3), 0);
    }
  }

  private static void types() {
    about("a node has a TYPE 0 .. 7");
    for (int type = 0; type < 8; type++) {
      TwigMerge x = loaded(tree(-1, type, 0, 0, 7 - type, 0));
      x.diff(0, 0);
      due("replay", x.replay(0), 2);
      due("the types", x.node(0, 2) + " " + x.node(1, 2), type + " " + (7 - type));
    }
    TwigMerge x = new TwigMerge();
    for (int type : new int[] {-1, 8, 9, 16, MIN, MIN + 1, 256, 257, 65536, MAX}) {
      due("a root of type " + type, x.add(0, -1, type, 0), -1);
    }
    due("the root", x.add(0, -1, 0, 0), 0);
    for (int type : new int[] {-1, 8, 9, 16, MIN, MIN + 1, 256, 257, 65536, MAX}) {
      due("a child of type " + type, x.add(0, 0, type, 0), -1);
    }
    due("size", x.size(0), 1);
  }

  private static void labels() {
    about("a LABEL (any int)");
    int[] all = {MIN, MIN + 1, -65536, -2, -1, 0, 1, 65536, MAX - 1, MAX};
    for (int one : all) {
      for (int other : all) {
        TwigMerge x = loaded(tree(-1, 0, one), tree(-1, 0, other));
        due("alike, " + one + " and " + other, x.alike(0, 0, 1, 0), one == other);
        due("diff", x.diff(0, 1), one == other ? 0 : 1);
        due("script", script(x), one == other ? "" : "U 0 " + other);
        due("replay", x.replay(x.count(1)), 1);
        due("the label", x.node(0, 3), other);
        load(x, 2, -1, 1, other);
        due("diff", x.diff(0, 2), 2);
        due("the INSERT's label", x.step(0, 5), other);
      }
    }
  }

  private static void heights() {
    about("The HEIGHT of a node without children is 1, of others 1 more than the greatest");
    TwigMerge x = loaded(star(0), ROOT);
    for (int n = 2; n < 12; n++) {
      due("a leaf", x.height(0, n), 1);
    }
    due("the star", x.height(0, 0), 2);
    due("a root alone", x.height(1, 0), 1);
    for (int n = 1; n < 12; n++) {
      due("add", x.add(1, n - 1, 0, 0), n);
      due("the root of a chain", x.height(1, 0), n + 1);
    }
    for (int n = 0; n < 12; n++) {
      due("node " + n + " of a chain", x.height(1, n), 12 - n);
    }
    load(x, 2, -1, 0, 0, 0, 0, 0, 1, 0, 0, 2, 0, 0, 0, 0, 0);
    due("the greatest child is the first", x.height(2, 0), 4);
    load(x, 2, -1, 0, 0, 0, 0, 0, 0, 0, 0, 2, 0, 0, 3, 0, 0);
    due("the greatest child is the last", x.height(2, 0), 4);
  }

  private static void asManyChildren() {
    about("ALIKE if they have the same type, the same label, and as many children");
    TwigMerge x = loaded(star(0), star(0), ROOT);
    due("two full trees", x.alike(0, 0, 1, 0), true);
    due("none and eleven", x.alike(2, 0, 0, 0), false);
    due("eleven and none", x.alike(0, 0, 2, 0), false);
    due("none and none", x.alike(2, 0, 0, 1), false);
    load(x, 2, -1, 0, 1);
    due("none and none, with the same label", x.alike(2, 0, 0, 1), true);
    load(x, 2, java.util.Arrays.copyOf(star(0), 33));
    due("eleven and ten", x.alike(0, 0, 2, 0), false);
    due("ten and eleven", x.alike(2, 0, 0, 0), false);
    due("add", x.add(2, 0, 0, 12), 11);
    due("the last child has another label", x.alike(0, 0, 2, 0), false);
    int[] chain = new int[36];
    for (int n = 0; n < 12; n++) {
      chain[3 * n] = n - 1;
    }
    load(x, 0, chain);
    load(x, 1, chain);
    due("the deepest trees", x.alike(0, 0, 1, 0), true);
    due("one level less", x.alike(0, 1, 1, 0), false);
    due("the ends", x.alike(0, 11, 1, 11), true);
    due("the one above the end", x.alike(0, 10, 1, 11), false);
    chain[35] = 1;
    load(x, 1, chain);
    due("another label at the end", x.alike(0, 0, 1, 0), false);
  }

  // Terms: partners.

  private static void heightTwoOrMore() {
    about("alike and of height 2 or more");
    due("height 1", found(CHILD, tree(-1, 5, 0, 0, 1, 1)),
        "-1 -1: I 2 -1 -1 5 0, I 3 2 -1 1 1, D 1, D 0");
    due("height 2", found(CHAIN, tree(-1, 5, 0, 0, 1, 1, 1, 2, 2)),
        "-1 1 2: I 3 -1 -1 5 0, M 1 3 -1, D 0");
    due("height 3", found(tree(-1, 0, 0, 0, 1, 1, 1, 2, 2, 2, 3, 3),
        tree(-1, 5, 0, 0, 1, 1, 1, 2, 2, 2, 3, 3)), "-1 1 2 3: I 4 -1 -1 5 0, M 1 4 -1, D 0");
  }

  private static void shareOfARoot() {
    about("the greatest share of their parents (0 if x or y is a root)");
    int[] twig = tree(-1, 1, 1, 0, 1, 2);
    int[] twice = tree(-1, 5, 0, 0, 5, 5, 1, 1, 1, 2, 1, 2, 0, 1, 1, 4, 1, 2);
    due("x is the root", found(twig, twice),
        "2 3: I 2 -1 -1 5 0, I 3 2 -1 5 5, M 0 3 -1, I 4 2 3 1 1, I 5 4 -1 1 2");
    due("y is the root", found(twice, twig), "-1 -1 0 1 -1 -1: M 2 -1 -1, D 5, D 4, D 1, D 0");
    due("both are", found(twig, twig), "0 1: ");
  }

  private static void greatestShare() {
    about("of these those with the greatest share of their parents");
    int[] from = tree(-1, 0, 0, 0, 1, 1, 1, 1, 2, 0, 2, 1, 3, 2, 2, 4, 2, 3, 0, 3, 1, 6, 3, 2,
        7, 3, 3);
    due("6 and then 3", partnersOf(from, tree(-1, 5, 0, 0, 1, 1, 1, 1, 2, 0, 6, 6, 3, 1, 1,
        4, 1, 2, 3, 2, 1, 6, 2, 2, 7, 2, 3, 0, 3, 1, 9, 3, 2, 10, 3, 3)),
        "-1 1 2 6 7 8 9 10 11");
    due("3 and then 6", partnersOf(from, tree(-1, 5, 0, 0, 6, 6, 1, 1, 1, 2, 1, 2, 1, 2, 1,
        4, 2, 2, 5, 2, 3, 0, 1, 1, 7, 1, 2, 0, 3, 1, 9, 3, 2, 10, 3, 3)),
        "-1 7 8 4 5 6 9 10 11");
  }

  private static void leastOfTheSameShare() {
    about("of these those with the least x; of these the one with the least y");
    int[] once = tree(-1, 5, 0, 0, 1, 1, 1, 1, 2);
    int[] twice = tree(-1, 6, 0, 0, 1, 1, 1, 1, 2, 0, 1, 1, 3, 1, 2);
    due("the least x", partnersOf(twice, once), "-1 1 2 -1 -1");
    due("the least y", partnersOf(once, twice), "-1 1 2");
    int[] others = tree(-1, 7, 0, 0, 1, 1, 1, 1, 2, 0, 1, 1, 3, 1, 2);
    due("both", partnersOf(twice, others), "-1 1 2 3 4");
  }

  private static void shareOneOrMore() {
    about("for which SHARE(x, y) is 1 or more");
    due("leaves have nothing below them", found(CHILD, tree(-1, 5, 0, 0, 1, 9)),
        "-1 -1: I 2 -1 -1 5 0, I 3 2 -1 1 9, D 1, D 0");
    due("nodes that share nothing", partnersOf(CHAIN, tree(-1, 5, 0, 0, 1, 9, 1, 2, 2)),
        "-1 -1 -1");
  }

  private static void justAQuarter() {
    about("4 * SHARE(x, y) is at least the number of nodes below x and below y together");
    int[] from = tree(-1, 0, 0, 0, 1, 1, 1, 2, 2, 2, 2, 3);
    int[] quarter = tree(-1, 5, 0, 0, 1, 1, 1, 2, 2, 2, 2, 3, 1, 3, 1, 1, 3, 2, 1, 3, 3, 1, 3, 4);
    int[] less = java.util.Arrays.copyOf(quarter, quarter.length + 3);
    less[quarter.length] = 1;
    less[quarter.length + 1] = 3;
    due("2 of 8", partnersOf(from, quarter), "-1 1 2 3");
    due("2 of 8, the other way", partnersOf(quarter, from), "-1 1 2 3 -1 -1 -1 -1");
    due("2 of 9", partnersOf(from, less), "-1 -1 2 3");
    due("2 of 9, the other way", partnersOf(less, from), "-1 -1 2 3 -1 -1 -1 -1 -1");
  }

  private static void leastOfTheSamePart() {
    about("SHARE(x, y) divided by that number is greatest, of these the least");
    int[] from = tree(-1, 0, 0, 0, 1, 1, 1, 2, 2, 2, 2, 3, 1, 3, 3, 4, 3, 4);
    int[] same = tree(-1, 5, 0, 0, 1, 7, 1, 3, 3, 2, 3, 4, 0, 1, 8, 4, 2, 2, 5, 2, 3);
    due("2 of 6 and 2 of 6", partnersOf(from, same), "-1 1 5 6 2 3");
    due("2 of 7 and 2 of 6", partnersOf(from,
        tree(-1, 5, 0, 0, 1, 7, 1, 3, 3, 2, 3, 4, 1, 7, 7, 0, 1, 8, 5, 2, 2, 6, 2, 3)),
        "-1 5 6 7 2 3");
    due("2 of 6 and 2 of 7", partnersOf(from,
        tree(-1, 5, 0, 0, 1, 7, 1, 3, 3, 2, 3, 4, 0, 1, 8, 4, 2, 2, 5, 2, 3, 4, 7, 7)),
        "-1 1 5 6 2 3");
  }

  private static void roots() {
    about("if both roots are without partner and of the same type");
    due("two roots alone", found(ROOT, ROOT), "0: ");
    due("of other types", found(ROOT, tree(-1, 1, 0)), "-1: I 1 -1 -1 1 0, D 0");
    int[] above = tree(-1, 1, 9, 0, 1, 1, 1, 2, 2);
    int[] twig = tree(-1, 1, 1, 0, 2, 2);
    due("that of TO has one", found(above, twig), "-1 0 1: M 1 -1 -1, D 0");
    due("that of FROM has one", found(twig, above), "1 2: I 2 -1 -1 1 9, M 0 2 -1");
    due("nodes 1 have one, and the roots do not share enough", found(
        tree(-1, 0, 0, 0, 1, 1, 1, 1, 2, 0, 2, 3, 0, 2, 4, 0, 2, 5, 0, 2, 6, 0, 2, 7, 0, 2, 8),
        tree(-1, 0, 0, 0, 1, 1, 1, 1, 2, 0, 3, 3)),
        "0 1 2 -1 -1 -1 -1 -1 -1: I 9 0 1 3 3, D 8, D 7, D 6, D 5, D 4, D 3");
  }

  private static void rootsThatShare() {
    about("for each x, from the greatest number down, that has no partner then");
    TwigMerge x = loaded(
        tree(-1, 1, 1, 0, 2, 2, 1, 7, 7, 1, 3, 3, 3, 3, 4, 0, 5, 5, 5, 5, 6),
        tree(-1, 2, 2, 0, 3, 3, 1, 3, 4, 0, 1, 1, 3, 5, 5, 4, 5, 6));
    due("down to the root, which goes below its child", x.diff(0, 1), 3);
    due("partners", partners(x, 7), "3 0 -1 1 2 4 5");
    due("script", script(x), "M 1 -1 -1, M 0 1 3, D 2");
    due("replay(2)", x.replay(2), 7);
    due("places", x.node(2, 1) + " " + x.node(3, 1) + " " + x.node(0, 1), "0 1 2");
    due("replay(3)", x.replay(3), 6);
    due("places", x.node(2, 1) + " " + x.node(3, 1) + " " + x.node(0, 1), "-2 0 1");
    due("equal(1)", x.equal(1), true);
  }

  private static void paired() {
    about("PAIRED: .. the first child of y without partner .. if there is one");
    due("no children", found(ROOT, tree(-1, 0, 5)), "0: U 0 5");
    due("x has none", found(ROOT, tree(-1, 0, 0, 0, 1, 1, 0, 1, 2)),
        "0: I 1 0 -1 1 1, I 2 0 1 1 2");
    due("y has none", found(tree(-1, 0, 0, 0, 1, 1, 0, 1, 2), ROOT), "0 -1 -1: D 2, D 1");
    int[] three = tree(-1, 0, 0, 0, 1, 1, 0, 1, 1, 0, 1, 1);
    due("y has less", found(three, CHILD), "0 1 -1 -1: D 3, D 2");
    due("y has more", found(CHILD, three), "0 1: I 2 0 1 1 1, I 3 0 2 1 1");
    due("with another label, and y has less", found(three, tree(-1, 0, 0, 0, 1, 9)),
        "0 1 -1 -1: U 1 9, D 3, D 2");
    due("with another label, and y has more", found(tree(-1, 0, 0, 0, 1, 9), three),
        "0 1: U 1 1, I 2 0 1 1 1, I 3 0 2 1 1");
    due("children of other types alone", found(CHILD, tree(-1, 0, 0, 0, 2, 1)),
        "0 -1: I 2 0 -1 2 1, D 1");
  }

  // Terms: the script.

  private static void insertedNumbers() {
    about("its k-th INSERT (from 0) makes the node with the number: nodes of FROM, and k");
    due("behind 1 node", found(ROOT, CHILD), "0: I 1 0 -1 1 1");
    due("behind 12 nodes", found(star(0), tree(-1, 1, 1, 0, 2, 2)),
        "-1 -1 -1 -1 -1 -1 -1 -1 -1 -1 -1 -1: I 12 -1 -1 1 1, I 13 12 -1 2 2, "
        + "D 11, D 10, D 9, D 8, D 7, D 6, D 5, D 4, D 3, D 2, D 1, D 0");
    TwigMerge x = loaded(star(0), star(1));
    due("a full script", x.diff(0, 1), 24);
    for (int k = 0; k < 12; k++) {
      due("INSERT " + k, x.step(k, 0) + " " + x.step(k, 1), "0 " + (12 + k));
      due("DELETE " + k, x.step(12 + k, 0) + " " + x.step(12 + k, 1), "3 " + (11 - k));
    }
    due("no step 24", x.step(24, 0), -2);
  }

  private static void severalRoots() {
    about("-1 is what the root is a child of (.. it may have several children for a time)");
    TwigMerge x = loaded(CHILD, tree(-1, 2, 0));
    due("diff", x.diff(0, 1), 3);
    due("replay(1)", x.replay(1), 3);
    due("result", result(x), "0:-1/1/0/0 1:0/0/1/1 2:-1/0/2/0");
    due("replay(3)", x.replay(3), 1);
    due("result", result(x), "2:-1/0/2/0");
    load(x, 0, CHAIN);
    load(x, 1, -1, 1, 1, 0, 2, 2);
    due("diff", x.diff(0, 1), 2);
    due("replay(1)", x.replay(1), 3);
    due("result", result(x), "0:-1/1/0/0 1:-1/0/1/1 2:1/0/2/2");
  }

  private static void behind() {
    about("BEHIND a node means directly after it .., behind -1: before all of them");
    int[] two = tree(-1, 0, 0, 0, 1, 1, 0, 1, 2);
    TwigMerge x = loaded(two, tree(-1, 0, 0, 0, 3, 3, 0, 1, 1, 0, 1, 2));
    due("behind -1", x.diff(0, 1), 1);
    due("script", script(x), "I 3 0 -1 3 3");
    due("replay", x.replay(1), 4);
    due("result", result(x), "0:-1/0/0/0 1:0/1/1/1 2:0/2/1/2 3:0/0/3/3");
    load(x, 1, -1, 0, 0, 0, 1, 1, 0, 3, 3, 0, 1, 2);
    due("between", x.diff(0, 1), 1);
    due("replay", x.replay(1), 4);
    due("result", result(x), "0:-1/0/0/0 1:0/0/1/1 2:0/2/1/2 3:0/1/3/3");
    load(x, 1, -1, 0, 0, 0, 1, 1, 0, 1, 2, 0, 3, 3);
    due("behind the last", x.diff(0, 1), 1);
    due("script", script(x), "I 3 0 2 3 3");
    due("replay", x.replay(1), 4);
    due("result", result(x), "0:-1/0/0/0 1:0/0/1/1 2:0/1/1/2 3:0/2/3/3");
    load(x, 1, -1, 0, 0, 0, 1, 2, 0, 1, 1);
    due("a MOVE behind -1", x.diff(0, 1), 1);
    due("script", script(x), "M 2 0 -1");
    due("replay", x.replay(1), 3);
    due("result", result(x), "0:-1/0/0/0 1:0/1/1/1 2:0/0/1/2");
  }

  private static void groups() {
    about("the longest row .. if there are several, the one whose first node is first ..");
    int[] row = tree(-1, 0, 0, 0, 1, 1, 0, 1, 2, 0, 1, 3, 0, 1, 4);
    due("none is left out", found(row, row), "0 1 2 3 4: ");
    due("all but one are", found(row, tree(-1, 0, 0, 0, 1, 4, 0, 1, 3, 0, 1, 2, 0, 1, 1)),
        "0 4 3 2 1: M 4 0 -1, M 3 0 4, M 2 0 3");
    due("first and second nodes", found(row, tree(-1, 0, 0, 0, 1, 2, 0, 1, 1, 0, 1, 4, 0, 1, 3)),
        "0 2 1 4 3: M 2 0 -1, M 4 0 1");
    due("the longest does not begin first",
        found(row, tree(-1, 0, 0, 0, 1, 2, 0, 1, 3, 0, 1, 4, 0, 1, 1)), "0 4 1 2 3: M 1 0 4");
    due("two halves", found(row, tree(-1, 0, 0, 0, 1, 3, 0, 1, 4, 0, 1, 1, 0, 1, 2)),
        "0 3 4 1 2: M 3 0 -1, M 4 0 3");
    int[] full = star(0);
    int[] turned = star(0);
    for (int n = 1; n < 12; n++) {
      turned[3 * n + 2] = 12 - n;
    }
    TwigMerge x = loaded(full, turned);
    due("eleven children, turned round", x.diff(0, 1), 10);
    due("the first is settled", x.count(2) + " " + x.step(0, 1) + " " + x.step(9, 1), "10 11 2");
    due("replay", x.replay(10), 12);
    due("equal(1)", x.equal(1), true);
  }

  private static void deletes() {
    about("a DELETE is of a node without children, and in the end the tree is alike to TO");
    TwigMerge x = loaded(tree(-1, 0, 0, 0, 1, 1, 1, 2, 2, 1, 2, 3, 2, 3, 4, 0, 4, 4), ROOT);
    due("diff", x.diff(0, 1), 5);
    due("script", script(x), "D 5, D 4, D 3, D 2, D 1");
    for (int k = 0; k < 5; k++) {
      due("replay(" + k + ")", x.replay(k), 6 - k);
      for (int n = 0; n < 6; n++) {
        due("the node has no child", x.node(n, 0) == x.step(k, 1), false);
      }
    }
    due("replay(5)", x.replay(5), 1);
    due("equal(1)", x.equal(1), true);
  }

  // Terms: the merge.

  private static void mergedNumbers() {
    about("Its k-th INSERT makes the node: nodes of BASE, and INSERTs of the first script, and k");
    due("without INSERTs of the first", merged(ROOT, ROOT, CHILD), "0 0:-1/0/0/0 1:0/0/1/1");
    due("behind one", merged(ROOT, CHILD, tree(-1, 0, 0, 0, 2, 2)),
        "0 0:-1/0/0/0 1:0/1/1/1 2:0/0/2/2");
    TwigMerge x = loaded(star(0), star(1), star(2));
    due("three full trees", x.merge(), 0);
    due("the roots", x.node(12, 0) + " " + x.node(12, 1) + ", " + x.node(24, 0) + " "
        + x.node(24, 1), "-1 1, -1 0");
    for (int n = 0; n < 12; n++) {
      due("node " + n, x.node(n, 0), -2);
      due("node " + (12 + n), x.node(12 + n, 2) + " " + x.node(12 + n, 3), "1 " + n);
      due("node " + (24 + n), x.node(24 + n, 2) + " " + x.node(24 + n, 3), "2 " + n);
    }
    due("the last of LEFT", x.node(23, 0) + " " + x.node(23, 1), "12 10");
    due("the last of RIGHT", x.node(35, 0) + " " + x.node(35, 1), "24 10");
    due("no node 36", x.node(36, 0), -2);
  }

  private static void taken() {
    about("the first such is TAKEN for it: nothing is done");
    due("a taken INSERT leaves its number out",
        merged(ROOT, CHILD, tree(-1, 0, 0, 0, 1, 1, 0, 2, 2)),
        "0 0:-1/0/0/0 1:0/0/1/1 3:0/1/2/2");
    due("another type", merged(ROOT, CHILD, tree(-1, 0, 0, 0, 0, 1)),
        "0 0:-1/0/0/0 1:0/1/1/1 2:0/0/0/1");
    due("another label", merged(ROOT, tree(-1, 0, 0, 0, 1, MIN), tree(-1, 0, 0, 0, 1, MAX)),
        "0 0:-1/0/0/0 1:0/1/1/" + MIN + " 2:0/0/1/" + MAX);
    due("another parent", merged(CHILD, tree(-1, 0, 0, 0, 2, 2, 0, 1, 1),
        tree(-1, 0, 0, 0, 1, 1, 1, 2, 2)), "0 0:-1/0/0/0 1:0/1/1/1 2:0/0/2/2 3:1/0/2/2");
    due("another node before it", merged(CHILD, tree(-1, 0, 0, 0, 2, 2, 0, 1, 1),
        tree(-1, 0, 0, 0, 1, 1, 0, 2, 2)), "0 0:-1/0/0/0 1:0/1/1/1 2:0/0/2/2 3:0/2/2/2");
    due("one is taken once alone", merged(ROOT, CHILD, tree(-1, 0, 0, 0, 1, 1, 0, 1, 1)),
        "0 0:-1/0/0/0 1:0/0/1/1 3:0/1/1/1");
    TwigMerge x = loaded(star(0), star(1), star(1));
    due("all twelve are taken", x.merge(), 0);
    due("and in the next merge again", x.merge(), 0);
    due("equal(1)", x.equal(1), true);
    due("node 23", x.node(23, 0), 12);
    due("no node 24", x.node(24, 0), -2);
  }

  private static void putConflicts() {
    about("INSERT, MOVE: the parent is not there any more");
    due("INSERT, the parent is there", merged(CHILD, CHILD, CHAIN),
        "0 0:-1/0/0/0 1:0/0/1/1 2:1/0/2/2");
    due("INSERT, it is not", merged(CHILD, ROOT, CHAIN), "1 ");
    due("INSERT under -1, which is always there", merged(ROOT, tree(-1, 1, 1), tree(-1, 2, 2)),
        "0 1:-1/1/1/1 2:-1/0/2/2");
    int[] base = tree(-1, 0, 0, 0, 1, 1, 1, 1, 2, 0, 2, 2);
    int[] moved = tree(-1, 0, 0, 0, 2, 2, 1, 1, 1, 2, 1, 2);
    due("MOVE, the parent is there", merged(base, base, moved),
        "0 0:-1/0/0/0 1:3/0/1/1 2:1/0/1/2 3:0/0/2/2");
    due("MOVE, it is not", merged(base, tree(-1, 0, 0, 0, 1, 1, 1, 1, 2), moved), "1 ");
    due("MOVE under -1, which is always there",
        merged(CHAIN, CHAIN, tree(-1, 1, 1, 0, 2, 2)), "0 1:-1/0/1/1 2:1/0/2/2");

    about("or the node behind which it goes is not -1 and not among the parent's children now");
    int[] behind = tree(-1, 0, 0, 0, 1, 1, 0, 2, 2);
    due("INSERT behind a child", merged(CHILD, CHILD, behind),
        "0 0:-1/0/0/0 1:0/0/1/1 2:0/1/2/2");
    due("INSERT, it was deleted", merged(CHILD, ROOT, behind), "1 ");
    due("INSERT behind -1, and no child is left",
        merged(CHILD, ROOT, tree(-1, 0, 0, 0, 2, 2, 0, 1, 1)), "0 0:-1/0/0/0 2:0/0/2/2");
    due("INSERT, it was moved away", merged(base, moved,
        tree(-1, 0, 0, 0, 1, 1, 1, 1, 2, 0, 7, 7, 0, 2, 2)), "1 ");
    int[] leaves = tree(-1, 0, 0, 0, 1, 1, 0, 2, 2, 0, 3, 3);
    int[] turned = tree(-1, 0, 0, 0, 2, 2, 0, 3, 3, 0, 1, 1);
    due("MOVE behind a child", merged(leaves, leaves, turned),
        "0 0:-1/0/0/0 1:0/2/1/1 2:0/0/2/2 3:0/1/3/3");
    due("MOVE, it was deleted", merged(leaves, tree(-1, 0, 0, 0, 1, 1, 0, 2, 2), turned), "1 ");
    int[] twig = tree(-1, 0, 0, 0, 1, 1, 0, 2, 2, 0, 3, 3, 3, 3, 4);
    due("MOVE, it was moved away", merged(twig,
        tree(-1, 0, 0, 0, 1, 1, 0, 2, 2, 2, 3, 3, 3, 3, 4),
        tree(-1, 0, 0, 0, 2, 2, 0, 3, 3, 2, 3, 4, 0, 1, 1)), "1 ");
  }

  private static void updateConflicts() {
    about("UPDATE, MOVE: the node is not there any more");
    int[] updated = tree(-1, 0, 0, 0, 1, MIN);
    due("UPDATE, it is there", merged(CHILD, CHILD, updated), "0 0:-1/0/0/0 1:0/0/1/" + MIN);
    due("UPDATE, it is not", merged(CHILD, ROOT, updated), "1 ");
    int[] leaves = tree(-1, 0, 0, 0, 1, 1, 0, 2, 2, 0, 3, 3);
    int[] turned = tree(-1, 0, 0, 0, 2, 2, 0, 3, 3, 0, 1, 1);
    due("MOVE, it is not", merged(leaves, tree(-1, 0, 0, 0, 2, 2, 0, 3, 3), turned), "1 ");
    due("another one is not", merged(leaves, tree(-1, 0, 0, 0, 1, 1, 0, 3, 3), turned),
        "0 0:-1/0/0/0 1:0/1/1/1 3:0/0/3/3");

    about("UPDATE: the first script updated that node to another label");
    due("another", merged(CHILD, tree(-1, 0, 0, 0, 1, MAX), updated), "1 ");
    due("the same, for which nothing is done", merged(CHILD, updated, updated),
        "0 0:-1/0/0/0 1:0/0/1/" + MIN);
    due("the same, and other steps", merged(CHILD, tree(-1, 0, 3, 0, 1, MIN), updated),
        "0 0:-1/0/0/3 1:0/0/1/" + MIN);
    due("another node", merged(CHILD, tree(-1, 0, 3, 0, 1, 1), updated),
        "0 0:-1/0/0/3 1:0/0/1/" + MIN);
  }

  private static void moveConflicts() {
    about("MOVE: the first script moved that node, but not under the same parent behind the same");
    int[] base = tree(-1, 0, 0, 0, 1, 1, 1, 1, 2, 0, 2, 2, 0, 3, 3);
    int[] intoSecond = tree(-1, 0, 0, 0, 2, 2, 1, 1, 1, 2, 1, 2, 0, 3, 3);
    int[] intoThird = tree(-1, 0, 0, 0, 2, 2, 0, 3, 3, 2, 1, 1, 3, 1, 2);
    due("another parent, behind -1 both times", merged(base, intoSecond, intoThird), "1 ");
    due("the same, for which nothing is done", merged(base, intoThird, intoThird),
        "0 0:-1/0/0/0 1:4/0/1/1 2:1/0/1/2 3:0/0/2/2 4:0/1/3/3");
    due("under a new root and under -1",
        merged(CHAIN, tree(-1, 3, 3, 0, 1, 1, 1, 2, 2), tree(-1, 1, 1, 0, 2, 2)), "1 ");
    due("the same parent, behind another node", merged(tree(-1, 0, 0, 0, 1, 1, 0, 2, 2, 0, 3, 3),
        tree(-1, 0, 0, 0, 3, 3, 0, 1, 1, 0, 2, 2), tree(-1, 0, 0, 0, 1, 1, 0, 3, 3, 0, 2, 2)),
        "1 ");

    about("MOVE: .. or the parent is that node or below it now");
    int[] twigs = tree(-1, 0, 0, 0, 1, 1, 1, 1, 2, 0, 2, 2, 3, 2, 3);
    int[] firstBelow = tree(-1, 0, 0, 0, 2, 2, 1, 2, 3, 1, 1, 1, 3, 1, 2);
    int[] secondBelow = tree(-1, 0, 0, 0, 1, 1, 1, 1, 2, 1, 2, 2, 3, 2, 3);
    due("each goes below the other", merged(twigs, firstBelow, secondBelow), "2 ");
    due("each goes below the other, the other way", merged(twigs, secondBelow, firstBelow), "2 ");
    due("the parent is beside it", merged(twigs, twigs, secondBelow),
        "0 0:-1/0/0/0 1:0/0/1/1 3:1/1/2/2 4:3/0/2/3 5:1/0/1/2");
  }

  private static void deleteConflicts() {
    about("DELETE: the first script updated or moved that node");
    int[] leaves = tree(-1, 0, 0, 0, 1, 1, 0, 2, 2, 0, 3, 3);
    int[] withoutSecond = tree(-1, 0, 0, 0, 1, 1, 0, 3, 3);
    due("updated", merged(leaves, tree(-1, 0, 0, 0, 1, 1, 0, 2, MAX, 0, 3, 3), withoutSecond),
        "1 ");
    due("moved", merged(leaves, tree(-1, 0, 0, 0, 2, 2, 0, 1, 1, 0, 3, 3), withoutSecond), "1 ");
    due("another was", merged(leaves, tree(-1, 0, 0, 0, 3, 3, 0, 1, 7, 0, 2, 2), withoutSecond),
        "0 0:-1/0/0/0 1:0/1/1/7 3:0/0/3/3");

    about("DELETE: .. or it has children now");
    due("an INSERT below it", merged(CHILD, CHAIN, ROOT), "1 ");
    due("a MOVE below it", merged(tree(-1, 0, 0, 0, 1, 1, 0, 2, 2, 2, 2, 3),
        tree(-1, 0, 0, 0, 1, 1, 1, 2, 2, 2, 2, 3), tree(-1, 0, 0, 0, 2, 2, 1, 2, 3)), "1 ");
    due("its children are deleted before it", merged(CHAIN, CHAIN, ROOT), "0 0:-1/0/0/0");
    due("its child was deleted by the first", merged(CHAIN, CHILD, ROOT), "0 0:-1/0/0/0");

    about("Nothing is done for: .. DELETE of a node that it deleted");
    due("both delete all", merged(CHAIN, ROOT, ROOT), "0 0:-1/0/0/0");
    due("both delete the root", merged(CHAIN, tree(-1, 1, 1, 0, 2, 2), tree(-1, 1, 1, 0, 2, 2)),
        "0 1:-1/0/1/1 2:1/0/2/2");
    due("the first deletes more", merged(CHAIN, ROOT, CHILD), "0 0:-1/0/0/0");
  }

  private static void noResult() {
    about("The RESULT .. there is none before the first, or after a merge with a conflict");
    TwigMerge x = loaded(CHILD, ROOT, tree(-1, 0, 0, 0, 1, 5));
    due("before the first", x.node(0, 0) + " " + x.equal(0), "-2 false");
    due("diff", x.diff(0, 1), 1);
    due("after diff alone", x.node(0, 0) + " " + x.equal(0), "-2 false");
    due("replay(2) is refused", x.replay(2), -1);
    due("and leaves none", x.node(0, 0) + " " + x.equal(0), "-2 false");
    due("replay(0)", x.replay(0), 2);
    due("result", result(x), "0:-1/0/0/0 1:0/0/1/1");
    due("a conflict", x.merge(), 1);
    for (int n = -1; n < 40; n++) {
      due("after a conflict, node " + n, x.node(n, 0), -2);
    }
    due("after a conflict", x.equal(0) + " " + x.equal(1) + " " + x.equal(2),
        "false false false");
    due("replay(1)", x.replay(1), 1);
    due("equal(1)", x.equal(1), true);
    due("a conflict again", x.merge(), 1);
    due("after a conflict", x.node(0, 0) + " " + x.equal(1), "-2 false");
    load(x, 1, CHILD);
    due("no conflict", x.merge(), 0);
    due("result", result(x), "0:-1/0/0/0 1:0/0/1/5");
  }

  // The promises, one by one.

  private static void newObject() {
    about("Promise 1: Empty trees; no script; no result");
    TwigMerge x = new TwigMerge();
    due("sizes", x.size(0) + " " + x.size(1) + " " + x.size(2), "0 0 0");
    due("heights", x.height(0, 0) + " " + x.height(1, 0) + " " + x.height(2, 0), "-1 -1 -1");
    due("alike", x.alike(0, 0, 0, 0) || x.alike(0, 0, 1, 0) || x.alike(2, 0, 2, 0), false);
    due("partner(0)", x.partner(0), -1);
    for (int what = -1; what < 7; what++) {
      due("step(0, " + what + ")", x.step(0, what), -2);
    }
    due("counts", x.count(0) + " " + x.count(1) + " " + x.count(2) + " " + x.count(3), "0 0 0 0");
    due("replay(0)", x.replay(0), -1);
    for (int what = -1; what < 5; what++) {
      due("node(0, " + what + ")", x.node(0, what), -2);
    }
    due("equal", x.equal(0) || x.equal(1) || x.equal(2), false);
    TwigMerge other = loaded(CHILD);
    due("an object for itself", other.size(0) + " " + x.size(0), "2 0");
  }

  private static void refusedAdd() {
    about("Promise 2: a parent (a node of that tree; -1 for the root, when the tree is empty)");
    TwigMerge x = new TwigMerge();
    due("node 0 of an empty tree", x.add(0, 0, 0, 0), -1);
    due("-1 in an empty tree", x.add(0, -1, 0, 0), 0);
    due("-1 in a tree with a root", x.add(0, -1, 0, 0), -1);
    due("the last node", x.add(0, 0, 1, 1), 1);
    due("the one behind the last node", x.add(0, 2, 1, 1), -1);
    due("a node of another tree", x.add(1, 0, 1, 1), -1);
    due("the root of another tree", x.add(1, -1, 1, 1), 0);
    due("a node of the other tree alone", x.add(1, 1, 1, 1), -1);
    due("clear", x.clear(0), true);
    due("a node of the tree before it was cleared", x.add(0, 1, 1, 1), -1);
    due("its root", x.add(0, 0, 1, 1), -1);

    about("Promise 2: -1, changing nothing, when there is no such tree or parent, type ..");
    load(x, 0, CHAIN);
    load(x, 1, CHAIN);
    due("diff", x.diff(0, 1), 0);
    due("replay", x.replay(0), 3);
    for (int wrong : NEVER) {
      due("tree " + wrong, x.add(wrong, 0, 0, 0), -1);
      due("tree " + wrong + ", a root", x.add(wrong, -1, 0, 0), -1);
      due("parent " + wrong, x.add(0, wrong, 0, 0), -1);
      due("type " + wrong, x.add(0, 0, wrong, 0), -1);
      due("parent " + wrong + " of an empty tree", x.add(2, wrong, 0, 0), -1);
    }
    due("tree -1", x.add(-1, 0, 0, 0) + " " + x.add(-1, -1, 0, 0), "-1 -1");
    due("tree 3", x.add(3, 0, 0, 0) + " " + x.add(3, -1, 0, 0), "-1 -1");
    due("sizes", x.size(0) + " " + x.size(1) + " " + x.size(2), "3 3 0");
    due("alike", x.alike(0, 0, 1, 0), true);
    due("equal", x.equal(0) && x.equal(1), true);
    due("partners", partners(x, 3), "0 1 2");
    due("the next number", x.add(0, 0, 0, 0) + " " + x.add(2, -1, 0, 0), "3 0");
  }

  private static void fullAdd() {
    about("Promise 2: -1, changing nothing, when .. there are 12 nodes");
    TwigMerge x = loaded(star(0), star(0));
    for (int parent = -1; parent < 13; parent++) {
      due("parent " + parent, x.add(0, parent, 0, 0), -1);
    }
    due("size", x.size(0), 12);
    due("alike", x.alike(0, 0, 1, 0), true);
    load(x, 0, java.util.Arrays.copyOf(star(0), 33));
    due("a 12th node goes behind the others", x.add(0, 0, 0, 11), 11);
    due("alike", x.alike(0, 0, 1, 0), true);
  }

  private static void cleared() {
    about("Promise 3: Makes a tree empty; false when there is no such tree");
    TwigMerge x = loaded(CHAIN, CHILD, ROOT);
    for (int wrong : NEVER) {
      due("clear(" + wrong + ")", x.clear(wrong), false);
    }
    due("clear(-1)", x.clear(-1), false);
    due("clear(3)", x.clear(3), false);
    due("nothing has changed", x.size(0) + " " + x.size(1) + " " + x.size(2), "3 2 1");
    for (int t = 0; t < 3; t++) {
      due("clear(" + t + ")", x.clear(t), true);
      due("it is empty", x.size(t) + " " + x.height(t, 0) + " " + x.diff(t, t), "0 -1 -1");
      due("and again", x.clear(t), true);
      due("sizes", x.size(1) + " " + x.size(2), t == 0 ? "2 1" : t == 1 ? "0 1" : "0 0");
    }
    due("a root can be added", x.add(0, -1, 1, 1), 0);
    due("it has no children", x.height(0, 0), 1);
  }

  private static void sizes() {
    about("Promise 4: The nodes of a tree; -1 when there is no such tree");
    TwigMerge x = loaded(star(0), ROOT);
    due("full, one, none", x.size(0) + " " + x.size(1) + " " + x.size(2), "12 1 0");
    for (int wrong : NEVER) {
      due("size(" + wrong + ")", x.size(wrong), -1);
    }
    due("size(-1)", x.size(-1), -1);
    due("size(3)", x.size(3), -1);
  }

  private static void noHeight() {
    about("Promise 5: The height of a node; -1 when there is no such tree or node");
    TwigMerge x = loaded(star(0), CHILD);
    due("first and last", x.height(0, 0) + " " + x.height(0, 11), "2 1");
    due("before the first", x.height(0, -1), -1);
    due("behind the last", x.height(0, 12), -1);
    due("behind the last of two", x.height(1, 1) + " " + x.height(1, 2), "1 -1");
    due("an empty tree", x.height(2, 0) + " " + x.height(2, -1), "-1 -1");
    due("tree -1", x.height(-1, 0), -1);
    due("tree 3", x.height(3, 0), -1);
    for (int wrong : NEVER) {
      due("height(" + wrong + ", 0)", x.height(wrong, 0), -1);
      due("height(0, " + wrong + ")", x.height(0, wrong), -1);
    }
    due("clear", x.clear(0), true);
    due("a node that was cleared", x.height(0, 1), -1);
  }

  private static void notAlike() {
    about("Promise 6: Whether two nodes are alike; false also when one is not there");
    TwigMerge x = loaded(CHILD, CHILD);
    due("both are there", x.alike(0, 0, 1, 0) && x.alike(0, 1, 1, 1), true);
    int[] trees = {-1, 2, 3, MIN, MAX, 256, 65536};
    for (int wrong : trees) {
      due("tree " + wrong, x.alike(wrong, 0, 1, 0), false);
      due("other tree " + wrong, x.alike(0, 0, wrong, 0), false);
      due("both trees " + wrong, x.alike(wrong, 0, wrong, 0), false);
    }
    int[] nodes = {-1, -2, 2, 11, 12, MIN, MAX, 256, 65536};
    for (int wrong : nodes) {
      due("node " + wrong, x.alike(0, wrong, 1, 1), false);
      due("other node " + wrong, x.alike(0, 1, 1, wrong), false);
      due("both nodes " + wrong, x.alike(0, wrong, 1, wrong), false);
      due("both nodes " + wrong + " of one tree", x.alike(0, wrong, 0, wrong), false);
    }
    due("clear", x.clear(1), true);
    due("a node that was cleared", x.alike(0, 0, 1, 0), false);
  }

  private static void refusedDiff() {
    about("Promise 7: -1, changing nothing, when there is no such tree or one is empty");
    TwigMerge x = loaded(CHILD, ROOT);
    due("no script yet", x.diff(0, 2) + " " + x.diff(2, 0) + " " + x.diff(2, 2), "-1 -1 -1");
    due("and none found", x.step(0, 0) + " " + x.replay(0) + " " + x.partner(0), "-2 -1 -1");
    due("diff", x.diff(0, 1), 1);
    due("replay", x.replay(1), 1);
    due("FROM is empty", x.diff(2, 0), -1);
    due("TO is empty", x.diff(0, 2), -1);
    due("both are", x.diff(2, 2), -1);
    due("no tree", x.diff(-1, 0) + " " + x.diff(0, -1) + " " + x.diff(3, 0) + " " + x.diff(0, 3),
        "-1 -1 -1 -1");
    for (int wrong : NEVER) {
      due("from " + wrong, x.diff(wrong, 0), -1);
      due("to " + wrong, x.diff(0, wrong), -1);
      due("both " + wrong, x.diff(wrong, wrong), -1);
    }
    due("the script is the same", script(x) + " " + x.count(3), "D 1 1");
    due("the partners are the same", partners(x, 3), "0 -1 -1");
    due("the result is the same", result(x), "0:-1/0/0/0");
    due("replay(0)", x.replay(0), 2);

    about("Promise 7: two trees (which may be the same; the result stays)");
    for (int t = 0; t < 2; t++) {
      due("a tree and itself", x.diff(t, t), 0);
      due("no steps", x.step(0, 0) + " " + x.count(3), "-2 0");
      due("the result", result(x), "0:-1/0/0/0 1:0/0/1/1");
    }
    load(x, 2, star(7));
    due("a full tree and itself", x.diff(2, 2), 0);
    due("partners", partners(x, 12), "0 1 2 3 4 5 6 7 8 9 10 11");
  }

  private static void treesOfThen() {
    about("Promise 7: partner, step, count and replay are about the trees as they were then");
    TwigMerge x = loaded(CHAIN, tree(-1, 0, 4, 0, 1, 1, 1, 2, 2, 0, 5, 5));
    String script = "U 0 4, I 3 0 1 5 5";
    due("diff", x.diff(0, 1), 2);
    for (int change = 0; change < 6; change++) {
      switch (change) {
        case 0 -> due("FROM grows", x.add(0, 0, 5, 5), 3);
        case 1 -> due("TO grows", x.add(1, 0, 5, 6), 4);
        case 2 -> due("FROM is cleared", x.clear(0), true);
        case 3 -> due("TO is cleared", x.clear(1), true);
        case 4 -> due("a new FROM", x.add(0, -1, 7, 7), 0);
        default -> due("a new TO", x.add(1, -1, 6, 6), 0);
      }
      due("partners", partners(x, 5), "0 1 2 -1 -1");
      due("script", script(x), script);
      due("counts", x.count(0) + " " + x.count(1), "1 1");
      due("replay(0)", x.replay(0), 3);
      due("replay(2)", x.replay(2), 4);
      due("no step more", x.replay(3), -1);
    }
    due("result", result(x), "0:-1/0/0/4 1:0/0/1/1 2:1/0/2/2 3:0/1/5/5");
  }

  private static void noPartner() {
    about("Promise 8: -1 when it has none, or there is no such node or diff");
    TwigMerge x = loaded(CHILD, star(0));
    due("no diff", x.partner(0) + " " + x.partner(1), "-1 -1");
    due("diff", x.diff(0, 1), 12);
    due("one has none", partners(x, 2), "0 -1");
    due("before the first", x.partner(-1), -1);
    due("behind the last", x.partner(2), -1);
    due("a node of TO alone", x.partner(11) + " " + x.partner(12), "-1 -1");
    for (int wrong : NEVER) {
      due("partner(" + wrong + ")", x.partner(wrong), -1);
    }
    due("a full FROM", x.diff(1, 1), 0);
    due("the last of twelve", x.partner(11), 11);
    due("behind the last of twelve", x.partner(12), -1);
    due("a smaller FROM again", x.diff(0, 0), 0);
    due("the partners of the diff before are gone", x.partner(2) + " " + x.partner(11), "-1 -1");
    due("a node that comes later", x.add(0, 0, 1, 1), 2);
    due("is none of then", x.partner(2), -1);
  }

  private static void partsOfSteps() {
    about("Promise 9: (both for INSERT and MOVE, else -1), (of an INSERT, else -1), (.. else 0)");
    TwigMerge x = loaded(tree(-1, 0, 0, 0, 1, 1, 0, 2, 2, 0, 3, 3),
        tree(-1, 0, MIN, 0, 2, 2, 0, 1, 1, 0, 4, MAX));
    due("diff", x.diff(0, 1), 4);
    int[][] want = {{1, 0, -1, -1, -1, MIN}, {2, 2, 0, -1, -1, 0}, {0, 4, 0, 1, 4, MAX},
        {3, 3, -1, -1, -1, 0}};
    for (int k = 0; k < 4; k++) {
      for (int what = 0; what < 6; what++) {
        due("step(" + k + ", " + what + ")", x.step(k, what), want[k][what]);
      }
    }
    load(x, 2, -1, 0, 0, 0, 1, -2);
    load(x, 1, -1, 0, 0);
    due("diff", x.diff(1, 2), 1);
    due("a label may be -2", x.step(0, 5), -2);

    about("Promise 9: -2 when there is no such step or what");
    due("step 0", x.step(0, 0), 0);
    due("before the first", x.step(-1, 0), -2);
    due("behind the last", x.step(1, 0), -2);
    due("a step of the script before", x.step(3, 0), -2);
    due("what -1", x.step(0, -1), -2);
    due("what 6", x.step(0, 6), -2);
    for (int wrong : NEVER) {
      due("step(" + wrong + ", 0)", x.step(wrong, 0), -2);
      due("step(0, " + wrong + ")", x.step(0, wrong), -2);
    }
    due("a script without steps", x.diff(1, 1), 0);
    due("has no step 0", x.step(0, 0), -2);
    load(x, 1, star(1));
    load(x, 2, star(2));
    due("a full script", x.diff(1, 2), 24);
    due("its last step", x.step(23, 0) + " " + x.step(23, 1), "3 0");
    due("behind it", x.step(24, 0), -2);
  }

  private static void counts() {
    about("Promise 10: 0 when there is no such kind or no diff");
    TwigMerge x = loaded(star(0), star(1));
    for (int kind = -1; kind < 5; kind++) {
      due("no diff, count(" + kind + ")", x.count(kind), 0);
    }
    due("diff", x.diff(0, 1), 24);
    due("kind -1", x.count(-1), 0);
    due("kinds", x.count(0) + " " + x.count(1) + " " + x.count(2) + " " + x.count(3), "12 0 0 12");
    due("kind 4", x.count(4), 0);
    for (int wrong : NEVER) {
      due("count(" + wrong + ")", x.count(wrong), 0);
    }
    due("a diff without steps", x.diff(0, 0), 0);
    due("kinds", x.count(0) + " " + x.count(3), "0 0");
  }

  private static void refusedReplay() {
    about("Promise 11: -1, changing nothing, when there was no diff or k is not 0 .. the number");
    TwigMerge x = loaded(star(0), star(1), ROOT);
    due("no diff", x.replay(0) + " " + x.replay(1) + " " + x.replay(-1), "-1 -1 -1");
    due("no result", x.node(0, 0), -2);
    due("diff", x.diff(0, 1), 24);
    due("k 0", x.replay(0), 12);
    due("equal(0)", x.equal(0), true);
    due("k 12, all INSERTs", x.replay(12), 24);
    due("node 23", x.node(23, 0) + " " + x.node(23, 1), "12 10");
    due("no node 24", x.node(24, 0), -2);
    due("k 23", x.replay(23), 13);
    due("not yet equal", x.equal(1), false);
    due("k 24", x.replay(24), 12);
    due("equal(1)", x.equal(1), true);
    due("k 25", x.replay(25), -1);
    due("k -1", x.replay(-1), -1);
    for (int wrong : NEVER) {
      due("replay(" + wrong + ")", x.replay(wrong), -1);
    }
    due("the result is the same", x.equal(1), true);
    due("a script without steps", x.diff(2, 2), 0);
    due("k 1", x.replay(1), -1);
    due("the result is the same", x.equal(1), true);
    due("k 0", x.replay(0), 1);
    due("nodes of the result before are gone", result(x, 36), "0:-1/0/0/0");
  }

  private static void refusedMerge() {
    about("Promise 12: -1, changing nothing, when a tree is empty");
    for (int empty = 0; empty < 3; empty++) {
      TwigMerge x = loaded(CHILD, CHAIN, CHILD);
      due("clear", x.clear(empty), true);
      due("before a result", x.merge() + " " + x.node(0, 0), "-1 -2");
      int other = (empty + 1) % 3;
      due("diff", x.diff(other, other), 0);
      due("replay", x.replay(0), x.size(other));
      due("with a result", x.merge(), -1);
      due("the result is the same", x.equal(other), true);
      due("the script is the same", x.replay(0), x.size(other));
    }
    TwigMerge x = new TwigMerge();
    due("all are empty", x.merge(), -1);

    about("Promise 12: 0, or 1 and the number (from 0) of the step of the second script");
    int[] two = tree(-1, 0, 0, 0, 1, 1, 0, 2, 2);
    int[] right = tree(-1, 0, 9);
    due("no conflict", merged(two, two, right), "0 0:-1/0/0/9");
    due("step 0", merged(two, tree(-1, 0, 8, 0, 1, 1, 0, 2, 2), right), "1 ");
    due("step 1", merged(two, tree(-1, 0, 0, 0, 1, 1, 0, 2, 2, 2, 3, 3), right), "2 ");
    due("step 2, the last", merged(two, tree(-1, 0, 0, 0, 1, 1, 0, 2, 2, 1, 3, 3), right), "3 ");
    due("the first of several", merged(two,
        tree(-1, 0, 0, 0, 1, 1, 0, 2, 2, 1, 3, 3, 2, 3, 3), right), "2 ");
    x = loaded(star(0), tree(-1, 0, 5), star(1));
    due("the last step of 24", x.merge(), 24);

    about("Promise 12: What diff found stays");
    load(x, 1, star(0));
    due("diff", x.diff(1, 0), 0);
    due("no conflict", x.merge(), 0);
    due("no steps", x.step(0, 0) + " " + x.replay(0), "-2 12");
    due("equal(0)", x.equal(0), true);
  }

  private static void noNode() {
    about("Promise 13: -2 when there is no result, or no such node (one that was deleted, too)");
    TwigMerge x = loaded(CHAIN, tree(-1, 0, 0, 0, 3, 3));
    due("no result", x.node(0, 0) + " " + x.node(1, 0), "-2 -2");
    due("diff", x.diff(0, 1), 3);
    due("no result", x.node(0, 0) + " " + x.node(1, 0), "-2 -2");
    due("replay(0)", x.replay(0), 3);
    due("the last", x.node(2, 0), 1);
    due("not yet made", x.node(3, 0), -2);
    due("before the first", x.node(-1, 0), -2);
    due("replay(3)", x.replay(3), 2);
    for (int what = 0; what < 4; what++) {
      due("deleted", x.node(1, what) + " " + x.node(2, what), "-2 -2");
    }
    due("the last", x.node(3, 0), 0);
    due("behind the last", x.node(4, 0), -2);
    for (int wrong : NEVER) {
      due("node(" + wrong + ", 0)", x.node(wrong, 0), -2);
    }

    about("Promise 13: -2 when there is no such .. what");
    due("all there are", x.node(3, 0) + " " + x.node(3, 1) + " " + x.node(3, 2) + " "
        + x.node(3, 3), "0 0 3 3");
    due("what -1", x.node(3, -1), -2);
    due("what 4", x.node(3, 4), -2);
    for (int wrong : NEVER) {
      due("node(3, " + wrong + ")", x.node(3, wrong), -2);
    }

    about("Promise 13: 0 its parent (-1 of the root), 1 its place .. (from 0)");
    due("the root", x.node(0, 0) + " " + x.node(0, 1), "-1 0");
    load(x, 0, star(5));
    due("diff", x.diff(0, 0), 0);
    due("replay", x.replay(0), 12);
    due("the first child and the last", x.node(1, 1) + " " + x.node(11, 1), "0 10");
  }

  private static void notEqual() {
    about("Promise 14: false also when there is no result, no such tree, or it is empty");
    TwigMerge x = loaded(CHILD, ROOT);
    due("no result", x.equal(0) + " " + x.equal(1) + " " + x.equal(2), "false false false");
    due("diff", x.diff(0, 1), 1);
    due("no result", x.equal(0), false);
    due("replay", x.replay(0), 2);
    due("there is one", x.equal(0) + " " + x.equal(1), "true false");
    due("an empty tree", x.equal(2), false);
    due("no tree", x.equal(-1) + " " + x.equal(3), "false false");
    for (int wrong : NEVER) {
      due("equal(" + wrong + ")", x.equal(wrong), false);
    }
    due("clear", x.clear(0), true);
    due("a tree that is empty now", x.equal(0), false);
    load(x, 2, CHILD);
    due("another tree", x.equal(2), true);

    about("Promise 14: it has a root, .. and nothing else is a child of -1");
    load(x, 0, -1, 1, 1);
    due("diff", x.diff(0, 1), 2);
    due("two roots", x.replay(1), 2);
    due("the first is alike to the tree", result(x) + " " + x.equal(1),
        "0:-1/1/1/1 1:-1/0/0/0 false");
    due("the second is alike to the tree", x.equal(0), false);
    due("one root", x.replay(2), 1);
    due("its number is not 0", result(x) + " " + x.equal(1), "1:-1/0/0/0 true");
    load(x, 0, star(0));
    load(x, 1, star(0));
    due("diff", x.diff(0, 1), 0);
    due("a full tree", x.replay(0) + " " + x.equal(1), "12 true");
  }

  private static final int[][] SAMPLES = {ROOT, CHILD, tree(-1, 1, 1, 0, 2, 2),
      tree(-1, 0, 0, 0, 2, 2, 0, 1, 9, 2, 2, 2), tree(-1, 2, 2, 0, 0, 0, 1, 1, 1, 2, 2, 2)};

  private static void latestDiff() {
    about("Promises 8 to 11: of the latest script, nothing of an earlier one is left");
    int all = SAMPLES.length * SAMPLES.length;
    for (int earlier = 0; earlier < all; earlier++) {
      for (int later = 0; later < all; later++) {
        int[] from = SAMPLES[later / SAMPLES.length];
        int[] to = SAMPLES[later % SAMPLES.length];
        TwigMerge x = loaded(SAMPLES[earlier / SAMPLES.length], SAMPLES[earlier % SAMPLES.length]);
        int steps = x.diff(0, 1);
        due("replay", x.replay(steps) > 0, true);
        load(x, 0, from);
        load(x, 1, to);
        steps = x.diff(0, 1);
        due("found", partners(x, from.length / 3) + ": " + script(x), found(from, to));
        due("replay", x.replay(steps), to.length / 3);
        due("equal(1)", x.equal(1), true);
      }
    }
  }

  private static void latestMerge() {
    about("The RESULT is the tree that the latest replay or merge led to");
    int all = SAMPLES.length * SAMPLES.length * SAMPLES.length;
    for (int later = 0; later < all; later++) {
      int[] base = SAMPLES[later / SAMPLES.length / SAMPLES.length];
      int[] left = SAMPLES[later / SAMPLES.length % SAMPLES.length];
      int[] right = SAMPLES[later % SAMPLES.length];
      String alone = merged(base, left, right);
      TwigMerge x = new TwigMerge();
      for (int[] earlier : SAMPLES) {
        load(x, 0, CHILD);
        load(x, 1, earlier);
        load(x, 2, earlier);
        due("merge()", x.merge(), 0);
        due("equal", x.equal(1) && x.equal(2), true);
        load(x, 0, base);
        load(x, 1, left);
        load(x, 2, right);
        due("merge() and the result", x.merge() + " " + result(x), alone);
      }
    }
  }

  public static void main(String[] args) {
    calls();
    atMostTwelveNodes();
    types();
    labels();
    heights();
    asManyChildren();
    heightTwoOrMore();
    shareOfARoot();
    greatestShare();
    leastOfTheSameShare();
    shareOneOrMore();
    justAQuarter();
    leastOfTheSamePart();
    roots();
    rootsThatShare();
    paired();
    insertedNumbers();
    severalRoots();
    behind();
    groups();
    deletes();
    mergedNumbers();
    taken();
    putConflicts();
    updateConflicts();
    moveConflicts();
    deleteConflicts();
    noResult();
    newObject();
    refusedAdd();
    fullAdd();
    cleared();
    sizes();
    noHeight();
    notAlike();
    refusedDiff();
    treesOfThen();
    noPartner();
    partsOfSteps();
    counts();
    refusedReplay();
    refusedMerge();
    noNode();
    notEqual();
    latestDiff();
    latestMerge();
    finish();
  }
}
