/** What the tests with answers worked out by hand have in common. */
abstract class Trial {
  private static int wrong = 0;
  private static String part = "";

  /** Says which part of the document the next answers belong to. */
  static void about(String text) {
    part = text;
  }

  static void due(String call, Object got, Object want) {
    if (!got.equals(want)) {
      wrong++;
      System.out.println(part + ": " + call + " answered " + got + ", due is " + want);
    }
  }

  static void finish() {
    System.out.println(wrong == 0 ? "all answers are as due" : wrong + " answers are not as due");
    if (wrong != 0) {
      System.exit(1);
    }
  }

  /** Rows of parent, type and label. */
  static int[] tree(int... rows) {
    return rows;
  }

  static void load(TwigMerge x, int tree, int... rows) {
    due("clear(" + tree + ")", x.clear(tree), true);
    for (int i = 0; i < rows.length; i += 3) {
      due("add to tree " + tree, x.add(tree, rows[i], rows[i + 1], rows[i + 2]), i / 3);
    }
  }

  static String partners(TwigMerge x, int nodes) {
    StringBuilder text = new StringBuilder();
    for (int n = 0; n < nodes; n++) {
      text.append(n == 0 ? "" : " ").append(x.partner(n));
    }
    return text.toString();
  }

  /** I node parent behind type label; U node label; M node parent behind; D node. */
  static String script(TwigMerge x) {
    StringBuilder text = new StringBuilder();
    for (int k = 0; x.step(k, 0) != -2; k++) {
      int kind = x.step(k, 0);
      text.append(k == 0 ? "" : ", ").append("IUMD".charAt(kind)).append(' ').append(x.step(k, 1));
      if (kind == 0 || kind == 2) {
        text.append(' ').append(x.step(k, 2)).append(' ').append(x.step(k, 3));
      } else {
        due("parts 2 and 3 of step " + k, x.step(k, 2) + " " + x.step(k, 3), "-1 -1");
      }
      if (kind == 0) {
        text.append(' ').append(x.step(k, 4));
      } else {
        due("part 4 of step " + k, x.step(k, 4), -1);
      }
      if (kind < 2) {
        text.append(' ').append(x.step(k, 5));
      } else {
        due("part 5 of step " + k, x.step(k, 5), 0);
      }
    }
    return text.toString();
  }

  /** Each node of the result below 16: number:parent/place/type/label. */
  static String result(TwigMerge x) {
    return result(x, 16);
  }

  static String result(TwigMerge x, int most) {
    StringBuilder text = new StringBuilder();
    for (int n = 0; n < most; n++) {
      if (x.node(n, 0) != -2) {
        text.append(text.length() == 0 ? "" : " ").append(n).append(':').append(x.node(n, 0));
        text.append('/').append(x.node(n, 1)).append('/').append(x.node(n, 2));
        text.append('/').append(x.node(n, 3));
      }
    }
    return text.toString();
  }

  /** The partners and the script that a new object finds for two trees. */
  static String found(int[] from, int[] to) {
    TwigMerge x = new TwigMerge();
    load(x, 0, from);
    load(x, 1, to);
    x.diff(0, 1);
    return partners(x, from.length / 3) + ": " + script(x);
  }

  /** The answer of merge in a new object, and the result behind it. */
  static String merged(int[] base, int[] left, int[] right) {
    TwigMerge x = new TwigMerge();
    load(x, 0, base);
    load(x, 1, left);
    load(x, 2, right);
    int answer = x.merge();
    return answer + " " + result(x);
  }
}
