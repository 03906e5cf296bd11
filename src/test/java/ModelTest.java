import java.util.ArrayList;
import java.util.HashMap;
import java.util.HashSet;
import java.util.List;
import java.util.Map;
import java.util.Set;

/**
 * Compares the program with a second, slow one that was written after the words of the document
 * with objects and lists, over many made-up trees (the same ones in each run).
 */
public final class ModelTest {
  private static final int ROUNDS = 40000;
  private static int wrong = 0;
  private static long seed = 20261115L;

  private static int pick(int below) {
    seed = seed * 6364136223846793005L + 1442695040888963407L;
    return (int) ((seed >>> 33) % below);
  }

  private static final class Node {
    int number;
    int type;
    int label;
    Node parent;
    List<Node> children = new ArrayList<>();

    Node(int number, int type, int label) {
      this.number = number;
      this.type = type;
      this.label = label;
    }

    List<Node> below() {
      List<Node> all = new ArrayList<>();
      for (Node child : children) {
        all.add(child);
        all.addAll(child.below());
      }
      return all;
    }

    int height() {
      int tallest = 0;
      for (Node child : children) {
        tallest = Math.max(tallest, child.height());
      }
      return tallest + 1;
    }

    boolean alike(Node other) {
      boolean same = type == other.type && label == other.label
          && children.size() == other.children.size();
      for (int i = 0; same && i < children.size(); i++) {
        same = children.get(i).alike(other.children.get(i));
      }
      return same;
    }
  }

  /** The top stands for -1. */
  private static final class Tree {
    Node top = new Node(-1, -1, 0);
    Map<Integer, Node> nodes = new HashMap<>();

    Node make(int number, int type, int label) {
      Node made = new Node(number, type, label);
      nodes.put(number, made);
      return made;
    }

    Node get(int number) {
      return number == -1 ? top : nodes.get(number);
    }

    void put(Node node, Node parent, int behind) {
      int at = behind == -1 ? 0 : parent.children.indexOf(get(behind)) + 1;
      if (behind != -1 && at == 0) {
        throw new IllegalStateException("step cannot be done");
      }
      parent.children.add(at, node);
      node.parent = parent;
    }

    void add(int parent, int type, int label) {
      Node under = get(parent);
      Node made = make(nodes.size(), type, label);
      under.children.add(made);
      made.parent = under;
    }

    Tree copy() {
      Tree copied = new Tree();
      copyBelow(top, copied.top, copied);
      return copied;
    }

    private static void copyBelow(Node node, Node into, Tree tree) {
      for (Node child : node.children) {
        Node made = tree.make(child.number, child.type, child.label);
        made.parent = into;
        into.children.add(made);
        copyBelow(child, made, tree);
      }
    }

    void perform(int[] step) {
      Node node = nodes.get(step[1]);
      switch (step[0]) {
        case 0:
          put(make(step[1], step[4], step[5]), get(step[2]), step[3]);
          break;
        case 1:
          node.label = step[5];
          break;
        case 2:
          if (get(step[2]) == node || node.below().contains(get(step[2]))) {
            throw new IllegalStateException("a node is moved below itself");
          }
          node.parent.children.remove(node);
          put(node, get(step[2]), step[3]);
          break;
        default:
          if (!node.children.isEmpty()) {
            throw new IllegalStateException("a deleted node has children");
          }
          node.parent.children.remove(node);
          nodes.remove(step[1]);
          break;
      }
    }
  }

  private static final class Model {
    Tree from;
    Tree to;
    Map<Node, Node> partner = new HashMap<>();
    Map<Node, Node> owner = new HashMap<>();
    List<int[]> steps = new ArrayList<>();
    int inserts = 0;

    Model(Tree from, Tree to) {
      this.from = from;
      this.to = to;
      while (joinAlike()) {
        continue;
      }
      for (int n = from.nodes.size() - 1; n >= 0; n--) {
        joinByShare(from.get(n));
      }
      Node x = from.get(0);
      Node y = to.get(0);
      if (!partner.containsKey(x) && !owner.containsKey(y) && x.type == y.type) {
        join(x, y);
        pair(x, y);
      }
      write(y, -1, -1);
      for (int n = from.nodes.size() - 1; n >= 0; n--) {
        if (!partner.containsKey(from.get(n))) {
          steps.add(new int[] {3, n, -1, -1, -1, 0});
        }
      }
    }

    void join(Node x, Node y) {
      partner.put(x, y);
      owner.put(y, x);
    }

    int share(Node x, Node y) {
      int shared = 0;
      List<Node> belowY = y.below();
      for (Node n : x.below()) {
        if (partner.containsKey(n) && belowY.contains(partner.get(n))) {
          shared++;
        }
      }
      return shared;
    }

    boolean joinAlike() {
      int[] best = null;
      for (int i = 0; i < from.nodes.size(); i++) {
        for (int j = 0; j < to.nodes.size(); j++) {
          Node x = from.get(i);
          Node y = to.get(j);
          if (partner.containsKey(x) || owner.containsKey(y) || !x.alike(y) || x.height() < 2) {
            continue;
          }
          int share = i == 0 || j == 0 ? 0 : share(x.parent, y.parent);
          int[] now = {-x.height(), -share, i, j};
          if (best == null || java.util.Arrays.compare(now, best) < 0) {
            best = now;
          }
        }
      }
      if (best == null) {
        return false;
      }
      List<Node> xs = from.get(best[2]).below();
      List<Node> ys = to.get(best[3]).below();
      join(from.get(best[2]), to.get(best[3]));
      for (int i = 0; i < xs.size(); i++) {
        join(xs.get(i), ys.get(i));
      }
      return true;
    }

    void joinByShare(Node x) {
      if (partner.containsKey(x)) {
        return;
      }
      Node best = null;
      double bestPart = 0;
      for (int j = 0; j < to.nodes.size(); j++) {
        Node y = to.get(j);
        int share = share(x, y);
        int below = x.below().size() + y.below().size();
        if (owner.containsKey(y) || x.type != y.type || share < 1 || 4 * share < below) {
          continue;
        }
        double part = share / (double) below;
        if (best == null || part > bestPart) {
          best = y;
          bestPart = part;
        }
      }
      if (best != null) {
        join(x, best);
        pair(x, best);
      }
    }

    void pair(Node x, Node y) {
      for (int round = 0; round < 2; round++) {
        for (Node a : x.children) {
          for (Node b : y.children) {
            boolean free = !partner.containsKey(a) && !owner.containsKey(b);
            if (free && a.type == b.type && (round == 1 || a.label == b.label)) {
              join(a, b);
            }
          }
        }
      }
    }

    /** Tries all parts of the row, as the document tells it. */
    boolean settled(Node x) {
      Node y = partner.get(x);
      Node a = x.parent;
      Node b = a == from.top ? to.top : partner.get(a);
      if (b == null || y.parent != b) {
        return false;
      }
      List<Node> all = new ArrayList<>();
      for (Node child : a.children) {
        if (partner.containsKey(child) && partner.get(child).parent == b) {
          all.add(child);
        }
      }
      List<Node> best = new ArrayList<>();
      for (int mask = 0; mask < 1 << all.size(); mask++) {
        List<Node> part = new ArrayList<>();
        boolean ordered = true;
        int last = -1;
        for (int i = 0; i < all.size(); i++) {
          if ((mask >> i & 1) != 0) {
            int place = b.children.indexOf(partner.get(all.get(i)));
            ordered &= place > last;
            last = place;
            part.add(all.get(i));
          }
        }
        if (ordered && isBetter(part, best, all)) {
          best = part;
        }
      }
      return best.contains(x);
    }

    static boolean isBetter(List<Node> part, List<Node> best, List<Node> all) {
      if (part.size() != best.size()) {
        return part.size() > best.size();
      }
      for (int i = 0; i < part.size(); i++) {
        int one = all.indexOf(part.get(i));
        int other = all.indexOf(best.get(i));
        if (one != other) {
          return one < other;
        }
      }
      return false;
    }

    void write(Node y, int p, int s) {
      Node x = owner.get(y);
      int counterpart;
      if (x == null) {
        counterpart = from.nodes.size() + inserts++;
        steps.add(new int[] {0, counterpart, p, s, y.type, y.label});
      } else {
        counterpart = x.number;
        if (x.label != y.label) {
          steps.add(new int[] {1, counterpart, -1, -1, -1, y.label});
        }
        if (!settled(x)) {
          steps.add(new int[] {2, counterpart, p, s, -1, 0});
        }
      }
      int before = -1;
      for (Node child : y.children) {
        write(child, counterpart, before);
        Node owned = owner.get(child);
        before = owned != null ? owned.number : lastInsertOf(counterpart, before);
      }
    }

    private int lastInsertOf(int p, int s) {
      for (int[] step : steps) {
        if (step[0] == 0 && step[2] == p && step[3] == s) {
          return step[1];
        }
      }
      throw new IllegalStateException("no such insert");
    }
  }

  private static final class MergeModel {
    Tree result;
    int answer = 0;
    List<int[]> first;
    Set<Integer> taken = new HashSet<>();
    Map<Integer, Integer> names = new HashMap<>();

    MergeModel(Tree base, Tree left, Tree right) {
      result = base.copy();
      first = new Model(base, left).steps;
      for (int[] step : first) {
        result.perform(step);
      }
      List<int[]> second = new Model(base, right).steps;
      int made = base.nodes.size();
      for (int[] step : first) {
        made += step[0] == 0 ? 1 : 0;
      }
      for (int k = 0; k < second.size() && answer == 0; k++) {
        int[] step = second.get(k).clone();
        step[2] = names.getOrDefault(step[2], step[2]);
        step[3] = names.getOrDefault(step[3], step[3]);
        if (step[0] == 0) {
          int twin = twin(step);
          int named = step[1];
          step[1] = made++;
          if (twin >= 0) {
            names.put(named, first.get(twin)[1]);
            taken.add(twin);
            continue;
          }
          names.put(named, step[1]);
        }
        String verdict = verdict(step);
        if (verdict.equals("conflict")) {
          answer = 1 + k;
          result = null;
        } else if (verdict.equals("do")) {
          result.perform(step);
        }
      }
    }

    int twin(int[] step) {
      for (int i = 0; i < first.size(); i++) {
        int[] other = first.get(i);
        if (other[0] == 0 && other[2] == step[2] && other[3] == step[3] && other[4] == step[4]
            && other[5] == step[5] && !taken.contains(i)) {
          return i;
        }
      }
      return -1;
    }

    int[] ofFirst(int kind, int node) {
      for (int[] step : first) {
        if (step[0] == kind && step[1] == node) {
          return step;
        }
      }
      return null;
    }

    String verdict(int[] step) {
      int kind = step[0];
      Node node = result.nodes.get(step[1]);
      if ((kind == 1 || kind == 2) && node == null) {
        return "conflict";
      }
      int[] same = ofFirst(kind, step[1]);
      if (kind != 0 && same != null && java.util.Arrays.equals(same, step)) {
        return "nothing";
      }
      boolean bad = false;
      Node parent = result.get(step[2]);
      if (kind == 0 || kind == 2) {
        bad |= parent == null;
        bad |= !bad && step[3] != -1 && !parent.children.contains(result.get(step[3]));
      }
      if (kind == 1) {
        bad |= same != null;
      }
      if (kind == 2) {
        bad |= same != null;
        bad |= parent == node || node.below().contains(parent);
      }
      if (kind == 3) {
        bad |= ofFirst(1, step[1]) != null || ofFirst(2, step[1]) != null;
        bad |= !node.children.isEmpty();
      }
      return bad ? "conflict" : "do";
    }
  }

  private static void due(String call, long got, long want) {
    if (got != want) {
      wrong++;
      if (wrong <= 20) {
        System.out.println(call + " answered " + got + ", due is " + want);
      }
    }
  }

  private static Tree randomTree(int size, int types, int labels, int shape) {
    Tree tree = new Tree();
    tree.add(-1, pick(types), pick(labels));
    for (int n = 1; n < size; n++) {
      int deep = Math.max(0, n - 1 - pick(3));
      int flat = pick(Math.min(n, 3));
      int parent = shape == 0 ? pick(n) : shape == 1 ? deep : flat;
      tree.add(parent, pick(types), pick(labels));
    }
    return tree;
  }

  /** A tree numbered as a tree of adds is: made by some edits and then renumbered. */
  private static Tree edited(Tree old, int edits, int types, int labels) {
    Tree tree = old.copy();
    int next = 100;
    for (int e = 0; e < edits; e++) {
      List<Node> all = tree.top.below();
      Node node = all.get(pick(all.size()));
      Node other = all.get(pick(all.size()));
      int kind = pick(4);
      boolean inside = node == other || node.below().contains(other);
      if (kind == 0 && all.size() < 12) {
        Node made = tree.make(next++, pick(types), pick(labels));
        made.parent = other;
        other.children.add(pick(other.children.size() + 1), made);
      } else if (kind == 1) {
        node.label = pick(labels);
      } else if (kind == 2 && !inside && node.parent != tree.top) {
        node.parent.children.remove(node);
        node.parent = other;
        other.children.add(pick(other.children.size() + 1), node);
      } else if (kind == 3 && node.children.isEmpty() && node.parent != tree.top) {
        node.parent.children.remove(node);
      }
    }
    return renumbered(tree);
  }

  private static Tree renumbered(Tree tree) {
    Tree made = new Tree();
    List<Node> open = new ArrayList<>(tree.top.children);
    Map<Node, Integer> numbers = new HashMap<>();
    numbers.put(tree.top, -1);
    boolean deep = pick(2) == 0;
    while (!open.isEmpty()) {
      Node node = open.remove(0);
      numbers.put(node, made.nodes.size());
      made.add(numbers.get(node.parent), node.type, node.label);
      open.addAll(deep ? 0 : open.size(), node.children);
    }
    return made;
  }

  private static void load(TwigMerge x, int tree, Tree model) {
    due("clear", x.clear(tree) ? 1 : 0, 1);
    for (int n = 0; n < model.nodes.size(); n++) {
      Node node = model.get(n);
      due("add", x.add(tree, node.parent.number, node.type, node.label), n);
    }
    due("size", x.size(tree), model.nodes.size());
  }

  private static void compareTrees(TwigMerge x, Tree[] trees, int a, int b) {
    for (Node one : trees[a].top.below()) {
      due("height", x.height(a, one.number), one.height());
      for (Node other : trees[b].top.below()) {
        boolean got = x.alike(a, one.number, b, other.number);
        due("alike", got ? 1 : 0, one.alike(other) ? 1 : 0);
      }
    }
  }

  private static void compareResult(TwigMerge x, Tree result, Tree[] trees) {
    for (int n = 0; n < 36; n++) {
      Node node = result == null ? null : result.nodes.get(n);
      due("node(" + n + ", 0)", x.node(n, 0), node == null ? -2 : node.parent.number);
      if (node != null) {
        due("node(" + n + ", 1)", x.node(n, 1), node.parent.children.indexOf(node));
        due("node(" + n + ", 2)", x.node(n, 2), node.type);
        due("node(" + n + ", 3)", x.node(n, 3), node.label);
      }
    }
    compareEqual(x, result, trees);
  }

  private static void compareEqual(TwigMerge x, Tree result, Tree[] trees) {
    for (int t = 0; t < 3; t++) {
      boolean want = result != null && result.top.children.size() == 1
          && result.top.children.get(0).alike(trees[t].get(0));
      due("equal(" + t + ")", x.equal(t) ? 1 : 0, want ? 1 : 0);
    }
  }

  private static void compareDiff(TwigMerge x, Model model) {
    int[] kinds = new int[4];
    for (int n = -1; n < 13; n++) {
      Node node = model.from.nodes.get(n);
      Node partner = node == null ? null : model.partner.get(node);
      due("partner", x.partner(n), partner == null ? -1 : partner.number);
    }
    for (int k = 0; k < model.steps.size(); k++) {
      kinds[model.steps.get(k)[0]]++;
      for (int what = 0; what < 6; what++) {
        due("step(" + k + ", " + what + ")", x.step(k, what), model.steps.get(k)[what]);
      }
    }
    for (int kind = 0; kind < 4; kind++) {
      due("count(" + kind + ")", x.count(kind), kinds[kind]);
    }
  }

  private static void compareReplays(TwigMerge x, Model model, Tree[] trees) {
    Tree result = model.from.copy();
    int looked = pick(model.steps.size() + 1);
    for (int k = 0; k <= model.steps.size(); k++) {
      due("replay(" + k + ")", x.replay(k), result.nodes.size());
      if (k == looked) {
        compareResult(x, result, trees);
      }
      if (k < model.steps.size()) {
        result.perform(model.steps.get(k));
      }
    }
    compareEqual(x, result, trees);
    boolean led = result.top.children.get(0).alike(model.to.get(0));
    due("the model's script leads to TO", led ? 1 : 0, 1);
  }

  private static Tree[] randomTrees() {
    int types = 1 + pick(4);
    int labels = 1 + pick(4);
    Tree base = randomTree(1 + pick(12), types, labels, pick(3));
    Tree[] trees = {base, null, null};
    for (int t = 1; t < 3; t++) {
      trees[t] = pick(8) == 0 ? randomTree(1 + pick(12), types, labels, pick(3))
          : edited(base, pick(9), types, labels);
    }
    return trees;
  }

  private static TwigMerge loaded(Tree[] trees) {
    TwigMerge x = new TwigMerge();
    for (int t = 0; t < 3; t++) {
      load(x, t, trees[t]);
    }
    return x;
  }

  /** New objects all the time: nothing is promised of one after 512 calls. */
  private static boolean compareAll(Tree[] trees) {
    int from = pick(3);
    int to = pick(3);
    Model model = new Model(trees[from], trees[to]);
    TwigMerge x = loaded(trees);
    compareTrees(x, trees, from, to);
    due("diff", x.diff(from, to), model.steps.size());
    compareReplays(x, model, trees);
    x = loaded(trees);
    due("diff", x.diff(from, to), model.steps.size());
    MergeModel merge = new MergeModel(trees[0], trees[1], trees[2]);
    due("merge", x.merge(), merge.answer);
    compareDiff(x, model);
    due("diff", x.diff(to, from), new Model(trees[to], trees[from]).steps.size());
    compareResult(x, merge.result, trees);
    return merge.answer == 0;
  }

  public static void main(String[] args) {
    int merges = 0;
    for (int round = 0; round < ROUNDS; round++) {
      merges += compareAll(randomTrees()) ? 1 : 0;
    }
    System.out.println(merges + " merges, " + (ROUNDS - merges) + " conflicts");
    System.out.println(wrong == 0 ? "all answers are as due" : wrong + " answers are not as due");
    if (wrong != 0) {
      System.exit(1);
    }
  }
}
