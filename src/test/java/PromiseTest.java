/** Runs of calls for each promise, with answers that were worked out by hand from the document. */
public final class PromiseTest extends Trial {
  private static void promise1() {
    about("promise 1, a new object");
    TwigMerge x = new TwigMerge();
    for (int t = 0; t < 3; t++) {
      due("size", x.size(t), 0);
      due("height", x.height(t, 0), -1);
      due("alike", x.alike(t, 0, t, 0), false);
      due("diff", x.diff(t, t), -1);
      due("equal", x.equal(t), false);
    }
    due("merge", x.merge(), -1);
    due("partner", x.partner(0), -1);
    due("step", x.step(0, 0), -2);
    due("replay", x.replay(0), -1);
    due("result", result(x), "");
    for (int kind = 0; kind < 4; kind++) {
      due("count", x.count(kind), 0);
    }
  }

  private static void promise2() {
    about("promise 2, add");
    TwigMerge x = new TwigMerge();
    due("a parent in an empty tree", x.add(0, 0, 0, 0), -1);
    due("no tree -1", x.add(-1, -1, 0, 0), -1);
    due("no tree 3", x.add(3, -1, 0, 0), -1);
    due("no type -1", x.add(0, -1, -1, 0), -1);
    due("no type 8", x.add(0, -1, 8, 0), -1);
    due("nothing has changed", x.size(0), 0);
    due("the root", x.add(0, -1, 7, Integer.MIN_VALUE), 0);
    due("a second root", x.add(0, -1, 0, 0), -1);
    due("a parent that is not there", x.add(0, 1, 0, 0), -1);
    due("a parent -2", x.add(0, -2, 0, 0), -1);
    due("a child", x.add(0, 0, 0, Integer.MAX_VALUE), 1);
    due("a grandchild", x.add(0, 1, 3, -1), 2);
    due("one behind the other child", x.add(0, 0, 4, 44), 3);
    due("a type that is none", x.add(0, 0, 8, 0), -1);
    due("size", x.size(0), 4);
    due("diff", x.diff(0, 0), 0);
    due("replay", x.replay(0), 4);
    due("result", result(x), "0:-1/0/7/-2147483648 1:0/0/0/2147483647 2:1/0/3/-1 3:0/1/4/44");
    for (int n = 4; n < 12; n++) {
      due("node " + n, x.add(0, n - 1, 1, n), n);
    }
    due("a 13th node", x.add(0, 0, 1, 1), -1);
    due("size", x.size(0), 12);
    due("the other trees", x.size(1) + x.size(2), 0);
  }

  private static void promise3() {
    about("promise 3, clear");
    TwigMerge x = new TwigMerge();
    load(x, 0, -1, 0, 0, 0, 1, 1);
    load(x, 1, -1, 2, 0);
    due("diff", x.diff(0, 1), 3);
    due("replay", x.replay(0), 2);
    due("clear(-1)", x.clear(-1), false);
    due("clear(3)", x.clear(3), false);
    due("sizes", x.size(0) + " " + x.size(1), "2 1");
    due("clear(0)", x.clear(0), true);
    due("sizes", x.size(0) + " " + x.size(1), "0 1");
    due("the script stays", script(x), "I 2 -1 -1 2 0, D 1, D 0");
    due("the result stays", result(x), "0:-1/0/0/0 1:0/0/1/1");
    due("replay is about the tree as it was", x.replay(1), 3);
    due("an empty tree is cleared", x.clear(0), true);
    due("a new root", x.add(0, -1, 5, 5), 0);
    due("its height", x.height(0, 0), 1);
  }

  private static void promises4And5() {
    about("promise 4, size");
    TwigMerge x = new TwigMerge();
    load(x, 2, -1, 0, 0, 0, 1, 1, 0, 1, 1, 2, 1, 1, 3, 1, 1, 1, 1, 1);
    due("size(2)", x.size(2), 6);
    due("size(0)", x.size(0), 0);
    due("size(-1)", x.size(-1), -1);
    due("size(3)", x.size(3), -1);
    about("promise 5, height");
    due("root", x.height(2, 0), 4);
    due("node 1", x.height(2, 1), 2);
    due("node 2", x.height(2, 2), 3);
    due("node 3", x.height(2, 3), 2);
    due("node 4", x.height(2, 4), 1);
    due("node 5", x.height(2, 5), 1);
    due("no node 6", x.height(2, 6), -1);
    due("no node -1", x.height(2, -1), -1);
    due("no node in an empty tree", x.height(0, 0), -1);
    due("no tree -1", x.height(-1, 0), -1);
    due("no tree 3", x.height(3, 0), -1);
    due("add", x.add(2, 4, 0, 0), 6);
    due("root after an add", x.height(2, 0), 5);
  }

  private static void promise6() {
    about("promise 6, alike");
    TwigMerge x = new TwigMerge();
    load(x, 0, -1, 0, 0, 0, 1, 1, 0, 1, 2, 1, 2, 3);
    load(x, 1, -1, 0, 0, 0, 1, 1, 1, 2, 3, 0, 1, 2);
    due("added in another order", x.alike(0, 0, 1, 0), true);
    due("nodes below", x.alike(0, 1, 1, 1), true);
    due("another label", x.alike(0, 1, 0, 2), false);
    due("a node and itself", x.alike(0, 2, 0, 2), true);
    load(x, 2, -1, 0, 0, 0, 1, 2, 0, 1, 1, 2, 2, 3);
    due("children in another order", x.alike(0, 0, 2, 0), false);
    load(x, 2, -1, 0, 0, 0, 1, 1, 0, 1, 2);
    due("one child less", x.alike(0, 0, 2, 0), false);
    due("one child less, the other way", x.alike(2, 0, 0, 0), false);
    load(x, 2, -1, 0, 0, 0, 1, 1, 0, 1, 2, 1, 2, 4);
    due("another label below", x.alike(0, 0, 2, 0), false);
    load(x, 2, -1, 0, 0, 0, 1, 1, 0, 1, 2, 1, 3, 3);
    due("another type below", x.alike(0, 0, 2, 0), false);
    load(x, 2, -1, 3, 0);
    due("another type", x.alike(0, 0, 2, 0), false);
    due("no node", x.alike(0, 4, 0, 4), false);
    due("no node -1", x.alike(0, -1, 0, -1), false);
    due("no tree", x.alike(-1, 0, 0, 0), false);
    due("no other tree", x.alike(0, 0, 3, 0), false);
    due("no other node", x.alike(0, 0, 1, 4), false);
  }

  private static void promise7() {
    about("promise 7, diff");
    TwigMerge x = new TwigMerge();
    load(x, 0, -1, 0, 0, 0, 1, 1);
    load(x, 1, -1, 0, 0, 0, 1, 5);
    due("a tree and itself", x.diff(0, 0), 0);
    due("two trees", x.diff(0, 1), 1);
    due("replay", x.replay(1), 2);
    due("an empty tree", x.diff(0, 2), -1);
    due("an empty tree first", x.diff(2, 0), -1);
    due("no tree -1", x.diff(-1, 0), -1);
    due("no tree 3", x.diff(0, 3), -1);
    due("the script is still there", script(x), "U 1 5");
    due("the partners too", partners(x, 3), "0 1 -1");
    due("add", x.add(0, 0, 1, 9), 2);
    due("the partners are those of then", partners(x, 3), "0 1 -1");
    x.clear(0);
    due("and are there without the tree", partners(x, 3), "0 1 -1");
    load(x, 0, -1, 0, 0, 0, 1, 1, 0, 1, 9);
    due("another diff", x.diff(1, 0), 2);
    due("the result stays", result(x), "0:-1/0/0/0 1:0/0/1/5");
    due("a new script", script(x), "U 1 1, I 2 0 1 1 9");
  }

  private static void alikePartners() {
    about("promise 8, partners that are alike");
    TwigMerge x = new TwigMerge();
    load(x, 0, -1, 0, 0, 0, 1, 1, 1, 3, 3, 2, 3, 4, 1, 4, 4, 4, 4, 5, 5, 4, 6);
    load(x, 1, -1, 0, 0, 0, 1, 8, 1, 3, 3, 2, 3, 4, 0, 1, 9, 4, 3, 3, 5, 3, 4, 4, 4, 4, 7, 4, 5,
        8, 4, 6);
    due("diff, the share of the parents decides", x.diff(0, 1), 4);
    due("partners", partners(x, 7), "0 4 5 6 7 8 9");
    due("script", script(x), "I 7 0 -1 1 8, I 8 7 -1 3 3, I 9 8 -1 3 4, U 1 9");
    load(x, 0, -1, 0, 0, 0, 1, 1, 1, 1, 2, 0, 1, 1, 3, 1, 2);
    load(x, 1, -1, 5, 0, 0, 1, 1, 1, 1, 2, 0, 1, 1, 3, 1, 2);
    x.diff(0, 1);
    due("the least x and y", partners(x, 5), "-1 1 2 3 4");
    load(x, 1, -1, 5, 0, 0, 1, 1, 1, 1, 2);
    x.diff(0, 1);
    due("the least x", partners(x, 5), "-1 1 2 -1 -1");
    x.diff(1, 0);
    due("the least y", partners(x, 3), "-1 1 2");
    load(x, 0, -1, 0, 0, 0, 1, 1, 1, 1, 2, 0, 2, 2, 3, 1, 1, 4, 1, 2);
    load(x, 1, -1, 5, 0, 0, 2, 2, 1, 1, 1, 2, 1, 2);
    x.diff(0, 1);
    due("the greatest height first", partners(x, 6), "-1 -1 -1 1 2 3");
    load(x, 0, -1, 0, 0, 0, 1, 1);
    load(x, 1, -1, 5, 0, 0, 1, 1);
    x.diff(0, 1);
    due("height 1 is not enough", partners(x, 2), "-1 -1");
  }

  private static void sharePartners() {
    about("promise 8, partners by their share");
    TwigMerge x = new TwigMerge();
    load(x, 0, -1, 0, 0, 0, 1, 1, 1, 2, 2, 2, 2, 3);
    load(x, 1, -1, 5, 0, 0, 1, 1, 1, 2, 2, 2, 2, 3, 1, 3, 1, 1, 3, 2, 1, 3, 3, 1, 3, 4);
    x.diff(0, 1);
    due("just a quarter", partners(x, 4), "-1 1 2 3");
    x.add(1, 1, 3, 5);
    x.diff(0, 1);
    due("less than a quarter", partners(x, 4), "-1 -1 2 3");
    load(x, 1, -1, 5, 0, 0, 6, 1, 1, 2, 2, 2, 2, 3);
    x.diff(0, 1);
    due("another type", partners(x, 4), "-1 -1 2 3");
    load(x, 0, -1, 0, 0, 0, 1, 1, 1, 2, 2, 2, 2, 3, 1, 3, 3, 4, 3, 4);
    load(x, 1, -1, 5, 0, 0, 1, 7, 1, 3, 3, 2, 3, 4, 0, 1, 8, 4, 2, 2, 5, 2, 3);
    x.diff(0, 1);
    due("the same part: the least", partners(x, 6), "-1 1 5 6 2 3");
    x.add(1, 1, 7, 7);
    x.diff(0, 1);
    due("the greatest part", partners(x, 6), "-1 4 5 6 2 3");
    load(x, 0, -1, 0, 0, 0, 1, 1, 1, 1, 1, 2, 2, 2, 3, 2, 3);
    load(x, 1, -1, 5, 0, 0, 1, 9, 1, 2, 2, 2, 2, 3);
    x.diff(0, 1);
    due("the greatest number first", partners(x, 5), "-1 -1 1 2 3");
    load(x, 0, -1, 0, 0, 0, 1, 1, 1, 2, 2, 2, 2, 3, 1, 3, 3, 1, 3, 4);
    load(x, 1, -1, 5, 0, 0, 1, 1, 1, 3, 4, 1, 3, 9, 1, 2, 2, 4, 2, 3);
    x.diff(0, 1);
    due("their children are paired", partners(x, 6), "-1 1 4 5 3 2");
  }

  private static void pairedPartners() {
    about("promise 8, roots and their children");
    TwigMerge x = new TwigMerge();
    load(x, 0, -1, 0, 0, 0, 1, 1, 0, 1, 2, 0, 2, 5, 0, 1, 3);
    load(x, 1, -1, 0, 3, 0, 1, 2, 0, 1, 9, 0, 2, 6);
    due("diff", x.diff(0, 1), 5);
    due("label and type, then type", partners(x, 5), "0 2 1 3 -1");
    due("script", script(x), "U 0 3, M 2 0 -1, U 1 9, U 3 6, D 4");
    load(x, 0, -1, 0, 0, 0, 1, 1, 1, 2, 2);
    load(x, 1, -1, 0, 0, 0, 1, 9, 1, 2, 2);
    x.diff(0, 1);
    due("children of children are not paired", partners(x, 3), "0 1 -1");
    due("script", script(x), "U 1 9, I 3 1 -1 2 2, D 2");
    load(x, 1, -1, 4, 0, 0, 1, 1);
    x.diff(0, 1);
    due("roots of other types", partners(x, 3), "-1 -1 -1");
    load(x, 1, -1, 1, 1, 0, 2, 2);
    x.diff(0, 1);
    due("the root of TO is taken", partners(x, 3), "-1 0 1");
    load(x, 0, -1, 1, 9, 0, 1, 1, 1, 2, 2);
    x.diff(0, 1);
    due("the root of TO is taken, and of the same type", partners(x, 3), "-1 0 1");
    x.diff(1, 0);
    due("the root of FROM is taken, and of the same type", partners(x, 2), "1 2");
    due("partner(-1)", x.partner(-1), -1);
    due("partner(3)", x.partner(3), -1);
    due("partner(12)", x.partner(12), -1);
  }

  private static void promise9() {
    about("promise 9, step");
    TwigMerge x = new TwigMerge();
    load(x, 0, -1, 0, 0, 0, 1, 1, 0, 1, 2, 0, 1, 3, 0, 1, 4);
    load(x, 1, -1, 0, 0, 0, 1, 2, 0, 1, 1, 0, 1, 4, 0, 1, 3);
    x.diff(0, 1);
    due("of several groups the first", script(x), "M 2 0 -1, M 4 0 1");
    load(x, 1, -1, 0, 0, 0, 1, 4, 0, 1, 1, 0, 1, 2, 0, 1, 3);
    x.diff(0, 1);
    due("the longest group", script(x), "M 4 0 -1");
    load(x, 1, -1, 0, 0, 0, 1, 4, 0, 1, 3, 0, 1, 2, 0, 1, 1);
    x.diff(0, 1);
    due("a group of one", script(x), "M 4 0 -1, M 3 0 4, M 2 0 3");
    load(x, 0, -1, 0, 0, 0, 1, 1, 1, 2, 2, 0, 3, 3, 3, 3, 4);
    load(x, 1, -1, 0, 0, 0, 3, 3, 1, 3, 4, 1, 1, 9, 3, 2, 2);
    x.diff(0, 1);
    due("leaves below another node", script(x),
        "I 5 3 -1 3 4, I 6 3 5 1 9, I 7 6 -1 2 2, D 4, D 2, D 1");
    load(x, 0, -1, 0, 0, 0, 1, 1, 1, 2, 2, 2, 2, 3, 0, 3, 3, 4, 3, 4);
    load(x, 1, -1, 0, 0, 0, 3, 3, 1, 3, 4, 0, 4, 4, 3, 1, 9, 4, 2, 2, 5, 2, 3);
    x.diff(0, 1);
    due("UPDATE comes before MOVE", script(x), "I 6 0 4 4 4, U 1 9, M 1 6 -1");
    load(x, 0, -1, 0, 0, 0, 1, 1, 1, 2, 2);
    load(x, 1, -1, 1, 1, 0, 2, 2);
    x.diff(0, 1);
    due("another root", script(x), "M 1 -1 -1, D 0");
    due("step(-1, 0)", x.step(-1, 0), -2);
    due("step(2, 0)", x.step(2, 0), -2);
    due("step(0, -1)", x.step(0, -1), -2);
    due("step(0, 6)", x.step(0, 6), -2);
    about("promise 10, count");
    due("INSERTs", x.count(0), 0);
    due("UPDATEs", x.count(1), 0);
    due("MOVEs", x.count(2), 1);
    due("DELETEs", x.count(3), 1);
    due("no kind -1", x.count(-1), 0);
    due("no kind 4", x.count(4), 0);
    due("diff the other way", x.diff(1, 0), 2);
    due("INSERTs", x.count(0), 1);
    due("DELETEs", x.count(3), 0);
  }

  private static void promise11() {
    about("promise 11, replay");
    TwigMerge x = new TwigMerge();
    load(x, 0, -1, 0, 0, 0, 1, 1, 1, 2, 2, 2, 2, 3, 0, 3, 3, 4, 3, 4, 0, 5, 5);
    load(x, 1, -1, 0, 0, 0, 3, 3, 1, 3, 4, 0, 4, 4, 3, 1, 9, 4, 2, 2, 5, 2, 3);
    due("diff", x.diff(0, 1), 4);
    due("script", script(x), "I 7 0 4 4 4, U 1 9, M 1 7 -1, D 6");
    due("replay(-1)", x.replay(-1), -1);
    due("replay(5)", x.replay(5), -1);
    due("no result", result(x), "");
    String below = " 2:1/0/2/2 3:2/0/2/3 ";
    due("replay(0)", x.replay(0), 7);
    due("result", result(x), "0:-1/0/0/0 1:0/0/1/1" + below + "4:0/1/3/3 5:4/0/3/4 6:0/2/5/5");
    due("equal(0)", x.equal(0), true);
    due("replay(1)", x.replay(1), 8);
    due("result", result(x),
        "0:-1/0/0/0 1:0/0/1/1" + below + "4:0/1/3/3 5:4/0/3/4 6:0/3/5/5 7:0/2/4/4");
    due("replay(2)", x.replay(2), 8);
    due("node(1, 3)", x.node(1, 3), 9);
    load(x, 0, -1, 7, 7);
    due("replay(3)", x.replay(3), 8);
    due("result", result(x),
        "0:-1/0/0/0 1:7/0/1/9" + below + "4:0/0/3/3 5:4/0/3/4 6:0/2/5/5 7:0/1/4/4");
    due("equal(1)", x.equal(1), false);
    due("replay(4)", x.replay(4), 7);
    due("equal(1)", x.equal(1), true);
    due("replay(5) changes nothing", x.replay(5), -1);
    due("equal(1)", x.equal(1), true);
  }

  private static void mergeInserts() {
    about("promise 12, merge with INSERTs");
    int[] root = tree(-1, 0, 0);
    int[] two = tree(-1, 0, 0, 0, 1, 1);
    due("taken", merged(root, tree(-1, 0, 0, 0, 1, 1, 1, 2, 2),
        tree(-1, 0, 0, 0, 1, 1, 1, 2, 2, 1, 3, 3)),
        "0 0:-1/0/0/0 1:0/0/1/1 2:1/0/2/2 5:1/1/3/3");
    due("taken under another number", merged(two, tree(-1, 0, 0, 0, 1, 1, 1, 4, 4, 0, 2, 2),
        tree(-1, 0, 0, 0, 1, 1, 0, 2, 2, 2, 6, 6, 0, 7, 7)),
        "0 0:-1/0/0/0 1:0/0/1/1 2:1/0/4/4 3:0/1/2/2 5:3/0/6/6 6:0/2/7/7");
    due("another node before it", merged(root, tree(-1, 0, 0, 0, 4, 4, 0, 1, 1), two),
        "0 0:-1/0/0/0 1:0/1/4/4 2:0/2/1/1 3:0/0/1/1");
    due("another label", merged(root, two, tree(-1, 0, 0, 0, 1, 2)),
        "0 0:-1/0/0/0 1:0/1/1/1 2:0/0/1/2");
    due("another type", merged(root, two, tree(-1, 0, 0, 0, 2, 1)),
        "0 0:-1/0/0/0 1:0/1/1/1 2:0/0/2/1");
    due("two roots", merged(root, tree(-1, 1, 0), tree(-1, 2, 0)), "0 1:-1/1/1/0 2:-1/0/2/0");
    due("one new root", merged(root, tree(-1, 1, 0), tree(-1, 1, 0)), "0 1:-1/0/1/0");
    due("the parent is not there", merged(two, root, tree(-1, 0, 0, 0, 1, 1, 1, 2, 2)), "1 ");
    due("the node before is not there", merged(two, root, tree(-1, 0, 0, 0, 1, 1, 0, 2, 2)),
        "1 ");
    due("the node before is elsewhere", merged(
        tree(-1, 0, 0, 0, 1, 1, 1, 1, 2, 0, 2, 2), tree(-1, 0, 0, 0, 2, 2, 1, 1, 1, 2, 1, 2),
        tree(-1, 0, 0, 0, 1, 1, 1, 1, 2, 0, 7, 7, 0, 2, 2)), "1 ");
    due("the other way it goes", merged(tree(-1, 0, 0, 0, 1, 1, 1, 1, 2, 0, 2, 2),
        tree(-1, 0, 0, 0, 1, 1, 1, 1, 2, 0, 7, 7, 0, 2, 2),
        tree(-1, 0, 0, 0, 2, 2, 1, 1, 1, 2, 1, 2)),
        "0 0:-1/0/0/0 1:3/0/1/1 2:1/0/1/2 3:0/1/2/2 4:0/0/7/7");
  }

  private static void mergeUpdatesAndDeletes() {
    about("promise 12, merge with UPDATEs and DELETEs");
    int[] root = tree(-1, 0, 0);
    int[] two = tree(-1, 0, 0, 0, 1, 1);
    int[] updated = tree(-1, 0, 0, 0, 1, 5);
    due("UPDATE", merged(two, two, updated), "0 0:-1/0/0/0 1:0/0/1/5");
    due("the same UPDATE", merged(two, updated, updated), "0 0:-1/0/0/0 1:0/0/1/5");
    due("UPDATEs to two labels", merged(two, updated, tree(-1, 0, 0, 0, 1, 6)), "1 ");
    due("UPDATEs of two nodes", merged(two, updated, tree(-1, 0, 7, 0, 1, 1)),
        "0 0:-1/0/0/7 1:0/0/1/5");
    due("UPDATE of a node that is not there", merged(two, root, updated), "1 ");
    due("the number of the step", merged(two, root, tree(-1, 0, 9, 0, 1, 5)), "2 ");
    due("DELETE", merged(two, two, root), "0 0:-1/0/0/0");
    due("the same DELETE", merged(two, root, root), "0 0:-1/0/0/0");
    due("DELETE of an updated node", merged(two, updated, root), "1 ");
    due("DELETE of a node with children", merged(two, tree(-1, 0, 0, 0, 1, 1, 1, 2, 2), root),
        "1 ");
    int[] twigs = tree(-1, 0, 0, 0, 1, 1, 0, 2, 2, 0, 3, 3);
    due("DELETE of a moved node", merged(twigs, tree(-1, 0, 0, 0, 2, 2, 0, 1, 1, 0, 3, 3),
        tree(-1, 0, 0, 0, 1, 1, 0, 3, 3)), "1 ");
    due("DELETE of another node", merged(twigs, tree(-1, 0, 0, 0, 2, 2, 0, 1, 1, 0, 3, 3),
        tree(-1, 0, 0, 0, 1, 1, 0, 2, 2)), "0 0:-1/0/0/0 1:0/1/1/1 2:0/0/2/2");
  }

  private static void mergeMoves() {
    about("promise 12, merge with MOVEs");
    int[] base = tree(-1, 0, 0, 0, 1, 1, 1, 1, 2, 0, 2, 2, 3, 3, 3, 4, 3, 4);
    int[] intoSecond = tree(-1, 0, 0, 0, 2, 2, 1, 1, 1, 2, 1, 2, 1, 3, 3, 4, 3, 4);
    int[] intoFirst = tree(-1, 0, 0, 0, 1, 1, 1, 2, 2, 2, 3, 3, 3, 3, 4, 1, 1, 2);
    int[] behind = tree(-1, 0, 0, 0, 2, 2, 1, 3, 3, 2, 3, 4, 1, 1, 1, 4, 1, 2);
    int[] swapped = tree(-1, 0, 0, 0, 2, 2, 1, 3, 3, 2, 3, 4, 0, 1, 1, 4, 1, 2);
    int[] withoutSecond = tree(-1, 0, 0, 0, 1, 1, 1, 1, 2);
    String moved = "0 0:-1/0/0/0 1:3/0/1/1 2:1/0/1/2 3:0/0/2/2 4:3/1/3/3 5:4/0/3/4";
    due("MOVE", merged(base, base, intoSecond), moved);
    due("the same MOVE", merged(base, intoSecond, intoSecond), moved);
    due("MOVE below itself", merged(base, intoSecond, intoFirst), "1 ");
    due("MOVE behind another node", merged(base, intoSecond, behind), "1 ");
    due("MOVE of another node", merged(base, intoSecond, swapped), moved);
    due("the node is not there", merged(base, withoutSecond, swapped), "1 ");
    due("the parent is not there", merged(base, withoutSecond, intoSecond), "1 ");
    due("the node before is not there", merged(tree(-1, 0, 0, 0, 1, 1, 0, 2, 2, 0, 3, 3),
        tree(-1, 0, 0, 0, 1, 1, 0, 2, 2), tree(-1, 0, 0, 0, 2, 2, 0, 3, 3, 0, 1, 1)), "1 ");
    due("the same MOVE under a taken node", merged(tree(-1, 0, 0, 0, 5, 5, 0, 1, 1, 2, 1, 2),
        tree(-1, 0, 0, 0, 5, 5, 1, 6, 6, 0, 4, 4, 3, 1, 1, 4, 1, 2),
        tree(-1, 0, 0, 0, 5, 5, 0, 4, 4, 2, 1, 1, 3, 1, 2)),
        "0 0:-1/0/0/0 1:0/0/5/5 2:5/0/1/1 3:2/0/1/2 4:1/0/6/6 5:0/1/4/4");
  }

  private static void mergeState() {
    about("promise 12, merge and what was found before");
    TwigMerge x = new TwigMerge();
    load(x, 0, -1, 0, 0, 0, 1, 1);
    load(x, 1, -1, 0, 0, 0, 1, 5);
    due("RIGHT is empty", x.merge(), -1);
    due("diff", x.diff(0, 1), 1);
    due("replay", x.replay(0), 2);
    due("RIGHT is empty", x.merge(), -1);
    due("the result stays", result(x), "0:-1/0/0/0 1:0/0/1/1");
    load(x, 2, -1, 3, 3);
    due("a conflict", x.merge(), 2);
    due("no result", result(x), "");
    due("what diff found stays", script(x) + " " + partners(x, 2), "U 1 5 0 1");
    due("replay", x.replay(1), 2);
    due("equal(1)", x.equal(1), true);
    load(x, 2, -1, 0, 0, 0, 1, 1, 0, 2, 2);
    due("no conflict", x.merge(), 0);
    due("result", result(x), "0:-1/0/0/0 1:0/0/1/5 2:0/1/2/2");
    due("what diff found stays", script(x) + " " + partners(x, 2), "U 1 5 0 1");
    x.clear(0);
    due("BASE is empty", x.merge(), -1);
    due("the result stays", result(x), "0:-1/0/0/0 1:0/0/1/5 2:0/1/2/2");
    load(x, 0, -1, 0, 0);
    x.clear(1);
    due("LEFT is empty", x.merge(), -1);
    due("the result stays", x.node(2, 1), 1);
  }

  private static void promises13And14() {
    about("promise 13, node");
    TwigMerge x = new TwigMerge();
    load(x, 0, -1, 0, 4, 0, 1, -2);
    load(x, 1, -1, 2, 0);
    x.diff(0, 1);
    due("no result before a replay", x.node(0, 0), -2);
    due("replay", x.replay(2), 2);
    due("result", result(x), "0:-1/1/0/4 2:-1/0/2/0");
    due("a deleted node", x.node(1, 0), -2);
    due("replay", x.replay(0), 2);
    due("not made yet", x.node(2, 0), -2);
    due("a node -1", x.node(-1, 0), -2);
    due("what -1", x.node(0, -1), -2);
    due("what 4", x.node(0, 4), -2);
    due("node 36", x.node(36, 0), -2);
    about("promise 14, equal");
    due("alike to FROM", x.equal(0), true);
    due("not alike to TO", x.equal(1), false);
    due("an empty tree", x.equal(2), false);
    due("no tree -1", x.equal(-1), false);
    due("no tree 3", x.equal(3), false);
    due("replay", x.replay(1), 3);
    due("two roots", x.equal(0), false);
    due("two roots", x.equal(1), false);
    due("replay", x.replay(3), 1);
    due("alike to TO", x.equal(1), true);
    x.add(1, 0, 0, 0);
    due("the tree as it is now", x.equal(1), false);
    load(x, 2, -1, 2, 0);
    due("a tree that had no part in it", x.equal(2), true);
    load(x, 1, -1, 3, 0);
    due("merge", x.merge(), 0);
    due("two roots", x.equal(1), false);
    due("two roots", x.equal(2), false);
  }

  public static void main(String[] args) {
    promise1();
    promise2();
    promise3();
    promises4And5();
    promise6();
    promise7();
    alikePartners();
    sharePartners();
    pairedPartners();
    promise9();
    promise11();
    mergeInserts();
    mergeUpdatesAndDeletes();
    mergeMoves();
    mergeState();
    promises13And14();
    finish();
  }
}
