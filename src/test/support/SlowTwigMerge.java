import java.util.ArrayList;
import java.util.HashMap;
import java.util.HashSet;
import java.util.List;
import java.util.Map;
import java.util.Set;

/**
 * The document once more, sentence by sentence, with objects and lists and no thought of speed:
 * what TwigMerge answers is compared with what this one answers.
 */
final class SlowTwigMerge {
  private static final int INSERT = 0;
  private static final int UPDATE = 1;
  private static final int MOVE = 2;
  private static final int DELETE = 3;

  private final Tree[] trees = {new Tree(), new Tree(), new Tree()};
  private Diff latest = null;
  private Tree result = null;

  int add(int tree, int parent, int type, int label) {
    if (tree < 0 || tree > 2 || type < 0 || type > 7 || trees[tree].size() == 12) {
      return -1;
    }
    Tree grown = trees[tree];
    boolean isRoot = parent == -1 && grown.size() == 0;
    if (!isRoot && !grown.nodes.containsKey(parent)) {
      return -1;
    }
    Node under = grown.get(parent);
    Node made = grown.make(grown.size(), type, label);
    made.parent = under;
    under.children.add(made);
    return made.number;
  }

  boolean clear(int tree) {
    if (tree < 0 || tree > 2) {
      return false;
    }
    trees[tree] = new Tree();
    return true;
  }

  int size(int tree) {
    return tree < 0 || tree > 2 ? -1 : trees[tree].size();
  }

  int height(int tree, int node) {
    Node found = nodeOf(tree, node);
    return found == null ? -1 : found.height();
  }

  boolean alike(int tree, int node, int otherTree, int otherNode) {
    Node one = nodeOf(tree, node);
    Node other = nodeOf(otherTree, otherNode);
    return one != null && other != null && one.isAlike(other);
  }

  int diff(int from, int to) {
    if (size(from) < 1 || size(to) < 1) {
      return -1;
    }
    latest = new Diff(trees[from].copy(), trees[to].copy());
    return latest.steps.size();
  }

  int partner(int node) {
    Node x = latest == null ? null : latest.from.nodes.get(node);
    Node y = x == null ? null : latest.partner.get(x);
    return y == null ? -1 : y.number;
  }

  int step(int k, int what) {
    boolean there = latest != null && k >= 0 && k < latest.steps.size() && what >= 0 && what <= 5;
    return there ? latest.steps.get(k).part(what) : -2;
  }

  int count(int kind) {
    int found = 0;
    for (int k = 0; latest != null && k < latest.steps.size(); k++) {
      found += latest.steps.get(k).kind == kind ? 1 : 0;
    }
    return found;
  }

  int replay(int k) {
    if (latest == null || k < 0 || k > latest.steps.size()) {
      return -1;
    }
    result = latest.from.copy();
    for (Step step : latest.steps.subList(0, k)) {
      result.perform(step);
    }
    return result.size();
  }

  int merge() {
    if (size(0) == 0 || size(1) == 0 || size(2) == 0) {
      return -1;
    }
    Merge merge = new Merge(trees[0], trees[1], trees[2]);
    result = merge.conflict == -1 ? merge.merged : null;
    return 1 + merge.conflict;
  }

  int node(int node, int what) {
    Node found = result == null ? null : result.nodes.get(node);
    if (found == null || what < 0 || what > 3) {
      return -2;
    }
    int place = found.parent.children.indexOf(found);
    return new int[] {found.parent.number, place, found.type, found.label}[what];
  }

  boolean equal(int tree) {
    Node root = nodeOf(tree, 0);
    return result != null && root != null && result.top.children.size() == 1
        && result.top.children.get(0).isAlike(root);
  }

  private Node nodeOf(int tree, int node) {
    return tree < 0 || tree > 2 ? null : trees[tree].nodes.get(node);
  }

  static final class Node {
    final int number;
    final int type;
    int label;
    Node parent = null;
    final List<Node> children = new ArrayList<>();

    Node(int number, int type, int label) {
      this.number = number;
      this.type = type;
      this.label = label;
    }

    List<Node> below() {
      List<Node> all = new ArrayList<>();
      for (Node child : children) {
        all.add(child);
        all.addAll(child.below());
      }
      return all;
    }

    int height() {
      int tallest = 0;
      for (Node child : children) {
        tallest = Math.max(tallest, child.height());
      }
      return tallest + 1;
    }

    boolean isAlike(Node other) {
      boolean same = type == other.type && label == other.label
          && children.size() == other.children.size();
      for (int i = 0; same && i < children.size(); i++) {
        same = children.get(i).isAlike(other.children.get(i));
      }
      return same;
    }
  }

  /** The top stands for -1. A step that cannot be done is a fault of this program. */
  static final class Tree {
    final Node top = new Node(-1, -1, 0);
    final Map<Integer, Node> nodes = new HashMap<>();

    int size() {
      return nodes.size();
    }

    Node make(int number, int type, int label) {
      Node made = new Node(number, type, label);
      nodes.put(number, made);
      return made;
    }

    Node get(int number) {
      return number == -1 ? top : nodes.get(number);
    }

    Tree copy() {
      Tree copied = new Tree();
      copied.copyBelow(top, copied.top);
      return copied;
    }

    private void copyBelow(Node old, Node into) {
      for (Node child : old.children) {
        Node made = make(child.number, child.type, child.label);
        made.parent = into;
        into.children.add(made);
        copyBelow(child, made);
      }
    }

    void putBehind(Node node, Node parent, int behind) {
      int at = behind == -1 ? 0 : parent.children.indexOf(get(behind)) + 1;
      if (behind != -1 && at == 0) {
        throw new IllegalStateException("the node before is not among the children");
      }
      parent.children.add(at, node);
      node.parent = parent;
    }

    void perform(Step step) {
      Node node = nodes.get(step.node);
      if (step.kind == INSERT) {
        putBehind(make(step.node, step.type, step.label), get(step.parent), step.behind);
      } else if (step.kind == UPDATE) {
        node.label = step.label;
      } else if (step.kind == MOVE) {
        if (get(step.parent) == node || node.below().contains(get(step.parent))) {
          throw new IllegalStateException("a node is moved below itself");
        }
        node.parent.children.remove(node);
        putBehind(node, get(step.parent), step.behind);
      } else {
        if (!node.children.isEmpty()) {
          throw new IllegalStateException("a deleted node has children");
        }
        node.parent.children.remove(node);
        nodes.remove(step.node);
      }
    }
  }

  record Step(int kind, int node, int parent, int behind, int type, int label) {
    int part(int what) {
      return new int[] {kind, node, parent, behind, type, label}[what];
    }

    boolean putsAsDoes(Step other) {
      return parent == other.parent && behind == other.behind;
    }
  }

  /** Two nodes of which one may become the partner of the other. */
  private record Pair(Node x, Node y) {
  }

  static final class Diff {
    final Tree from;
    final Tree to;
    final Map<Node, Node> partner = new HashMap<>();
    final Map<Node, Node> owner = new HashMap<>();
    final Map<Node, Integer> counterpart = new HashMap<>();
    final List<Step> steps = new ArrayList<>();

    Diff(Tree from, Tree to) {
      this.from = from;
      this.to = to;
      while (joinTwigs()) {
        continue;
      }
      for (int n = from.size() - 1; n >= 0; n--) {
        joinByShare(from.get(n));
      }
      Node x = from.get(0);
      Node y = to.get(0);
      if (isFree(x, y) && x.type == y.type) {
        join(x, y);
        pairChildren(x, y);
      }
      counterpart.put(to.top, -1);
      write(to.get(0), -1);
      for (int n = from.size() - 1; n >= 0; n--) {
        if (!partner.containsKey(from.get(n))) {
          steps.add(new Step(DELETE, n, -1, -1, -1, 0));
        }
      }
    }

    private boolean isFree(Node x, Node y) {
      return !partner.containsKey(x) && !owner.containsKey(y);
    }

    private void join(Node x, Node y) {
      if (!isFree(x, y) || x.type != y.type) {
        throw new IllegalStateException("these cannot become partners");
      }
      partner.put(x, y);
      owner.put(y, x);
    }

    private int share(Node x, Node y) {
      int shared = 0;
      List<Node> belowY = y.below();
      for (Node n : x.below()) {
        shared += partner.containsKey(n) && belowY.contains(partner.get(n)) ? 1 : 0;
      }
      return shared;
    }

    private int shareOfParents(Pair pair) {
      boolean isRoot = pair.x == from.get(0) || pair.y == to.get(0);
      return isRoot ? 0 : share(pair.x.parent, pair.y.parent);
    }

    private boolean joinTwigs() {
      Pair best = null;
      for (int i = 0; i < from.size(); i++) {
        for (int j = 0; j < to.size(); j++) {
          Pair pair = new Pair(from.get(i), to.get(j));
          boolean fits = isFree(pair.x, pair.y) && pair.x.isAlike(pair.y) && pair.x.height() >= 2;
          // The pairs come with the least x first, and for each x with the least y first.
          if (fits && (best == null || isAbove(pair, best))) {
            best = pair;
          }
        }
      }
      if (best != null) {
        joinAllBelow(best.x, best.y);
      }
      return best != null;
    }

    private boolean isAbove(Pair one, Pair other) {
      int taller = Integer.compare(one.x.height(), other.x.height());
      return taller > 0 || taller == 0 && shareOfParents(one) > shareOfParents(other);
    }

    private void joinAllBelow(Node x, Node y) {
      join(x, y);
      for (int i = 0; i < x.children.size(); i++) {
        joinAllBelow(x.children.get(i), y.children.get(i));
      }
    }

    private void joinByShare(Node x) {
      Node best = null;
      double greatest = 0;
      for (int j = 0; j < to.size(); j++) {
        Node y = to.get(j);
        int share = share(x, y);
        int number = x.below().size() + y.below().size();
        boolean fits = isFree(x, y) && x.type == y.type && share >= 1 && 4 * share >= number;
        // Numbers as small as these have the same quotient only if they are the same fraction.
        if (fits && (double) share / number > greatest) {
          best = y;
          greatest = (double) share / number;
        }
      }
      if (best != null) {
        join(x, best);
        pairChildren(x, best);
      }
    }

    private void pairChildren(Node x, Node y) {
      for (boolean withLabel : new boolean[] {true, false}) {
        for (Node a : x.children) {
          for (Node b : y.children) {
            if (isFree(a, b) && a.type == b.type && (!withLabel || a.label == b.label)) {
              join(a, b);
            }
          }
        }
      }
    }

    private boolean isSettled(Node x) {
      Node a = x.parent;
      Node b = a == from.top ? to.top : partner.get(a);
      if (b == null || partner.get(x).parent != b) {
        return false;
      }
      List<Node> candidates = new ArrayList<>();
      for (Node child : a.children) {
        if (partner.containsKey(child) && partner.get(child).parent == b) {
          candidates.add(child);
        }
      }
      return group(candidates, b).contains(x);
    }

    /** Bit i from the left is candidate i, so that of rows as long the greatest mask is first. */
    private List<Node> group(List<Node> candidates, Node b) {
      List<Node> best = new ArrayList<>();
      for (int mask = (1 << candidates.size()) - 1; mask > 0; mask--) {
        List<Node> row = new ArrayList<>();
        for (int i = 0; i < candidates.size(); i++) {
          if ((mask >> candidates.size() - 1 - i & 1) != 0) {
            row.add(candidates.get(i));
          }
        }
        if (row.size() > best.size() && isInOrder(row, b)) {
          best = row;
        }
      }
      return best;
    }

    private boolean isInOrder(List<Node> row, Node b) {
      for (int i = 1; i < row.size(); i++) {
        int before = b.children.indexOf(partner.get(row.get(i - 1)));
        if (before > b.children.indexOf(partner.get(row.get(i)))) {
          return false;
        }
      }
      return true;
    }

    private void write(Node y, int s) {
      int p = counterpart.get(y.parent);
      Node x = owner.get(y);
      if (x == null) {
        int made = from.size();
        for (Step step : steps) {
          made += step.kind == INSERT ? 1 : 0;
        }
        steps.add(new Step(INSERT, made, p, s, y.type, y.label));
        counterpart.put(y, made);
      } else {
        counterpart.put(y, x.number);
        if (x.label != y.label) {
          steps.add(new Step(UPDATE, x.number, -1, -1, -1, y.label));
        }
        if (!isSettled(x)) {
          steps.add(new Step(MOVE, x.number, p, s, -1, 0));
        }
      }
      int before = -1;
      for (Node child : y.children) {
        write(child, before);
        before = counterpart.get(child);
      }
    }
  }

  static final class Merge {
    final Tree merged;
    int conflict = -1;
    private final List<Step> first;
    private final List<Step> second;
    private final Set<Step> taken = new HashSet<>();
    private final Map<Integer, Integer> names = new HashMap<>();

    Merge(Tree base, Tree left, Tree right) {
      merged = base.copy();
      first = new Diff(base, left).steps;
      second = new Diff(base, right).steps;
      int next = base.size();
      for (Step step : first) {
        merged.perform(step);
        next += step.kind == INSERT ? 1 : 0;
      }
      for (int k = 0; k < second.size() && conflict == -1; k++) {
        Step step = second.get(k);
        if (step.kind == INSERT) {
          names.put(step.node, next);
          next++;
        }
        if (!mergeStep(renamed(step), step.node)) {
          conflict = k;
        }
      }
    }

    /** -1 and the nodes of BASE keep their names. */
    private Step renamed(Step step) {
      return new Step(step.kind, names.getOrDefault(step.node, step.node),
          names.getOrDefault(step.parent, step.parent),
          names.getOrDefault(step.behind, step.behind), step.type, step.label);
    }

    private boolean mergeStep(Step step, int oldName) {
      Step twin = step.kind == INSERT ? twinOf(step) : null;
      if (twin != null) {
        taken.add(twin);
        names.put(oldName, twin.node);
        return true;
      }
      boolean needsNode = step.kind == UPDATE || step.kind == MOVE;
      if (needsNode && merged.get(step.node) == null) {
        return false;
      }
      if (first.contains(step) && step.kind != INSERT) {
        return true;
      }
      if (isConflict(step)) {
        return false;
      }
      merged.perform(step);
      return true;
    }

    private Step twinOf(Step step) {
      for (Step other : first) {
        if (other.kind == INSERT && other.putsAsDoes(step) && other.type == step.type
            && other.label == step.label && !taken.contains(other)) {
          return other;
        }
      }
      return null;
    }

    private boolean firstHas(int kind, int node) {
      for (Step other : first) {
        if (other.kind == kind && other.node == node) {
          return true;
        }
      }
      return false;
    }

    private boolean isConflict(Step step) {
      Node node = merged.get(step.node);
      Node parent = merged.get(step.parent);
      switch (step.kind) {
        case INSERT:
          return cannotPut(step);
        case UPDATE:
          return firstHas(UPDATE, step.node);
        case MOVE:
          return cannotPut(step) || firstHas(MOVE, step.node) || parent == node
              || node.below().contains(parent);
        default:
          return firstHas(UPDATE, step.node) || firstHas(MOVE, step.node)
              || !node.children.isEmpty();
      }
    }

    private boolean cannotPut(Step step) {
      Node parent = merged.get(step.parent);
      return parent == null
          || step.behind != -1 && !parent.children.contains(merged.get(step.behind));
    }
  }
}
