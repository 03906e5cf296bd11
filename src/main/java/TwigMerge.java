import java.util.Arrays;

/**
 * Finds out how one tree became another one, says it as a script of single steps, replays such
 * scripts, and merges two trees that came from a third one.
 */
public final class TwigMerge {
  private static final int TREES = 3;
  private static final int BASE = 0;
  private static final int LEFT = 1;
  private static final int RIGHT = 2;
  private static final int TYPES = 8;

  private static final int MOST_NODES = 12;
  /** A merge gives numbers to the nodes of BASE and to the INSERTs of two scripts. */
  private static final int MOST_MERGED = 3 * MOST_NODES;
  /** A pair of partners costs at most UPDATE and MOVE, any other node one INSERT or DELETE. */
  private static final int MOST_STEPS = 2 * MOST_NODES;
  /** No tree of the document is as deep as this. */
  private static final int DEEPEST = 40;

  /** No node; as a parent, what the root is a child of; as a place, before all children. */
  private static final int NONE = -1;
  /** The parent of a node that is not there. */
  private static final int ABSENT = -2;
  /** What step and node answer when they are asked for what is not there. */
  private static final int UNKNOWN = -2;

  private static final int INSERT = 0;
  private static final int UPDATE = 1;
  private static final int MOVE = 2;
  private static final int DELETE = 3;

  private static final int STEP_KIND = 0;
  private static final int STEP_NODE = 1;
  private static final int STEP_PARENT = 2;
  private static final int STEP_BEHIND = 3;
  private static final int STEP_TYPE = 4;
  private static final int STEP_LABEL = 5;
  private static final int STEP_PARTS = 6;

  private final Forest[] trees;
  private final int[] heights;
  private final Forest start;
  private final Difference latest;
  private final Merger merger;
  private final Forest result;
  private boolean hasDiff;
  private boolean hasResult;

  public TwigMerge() {
    trees = new Forest[TREES];
    for (int i = 0; i < TREES; i++) {
      trees[i] = new Forest(MOST_NODES);
    }
    heights = new int[MOST_NODES];
    start = new Forest(MOST_NODES);
    latest = new Difference();
    merger = new Merger();
    result = merger.result;
    hasDiff = false;
    hasResult = false;
  }

  public int add(int tree, int parent, int type, int label) {
    if (!isTree(tree) || type < 0 || type >= TYPES) {
      return -1;
    }
    Forest grown = trees[tree];
    boolean fits = grown.used == 0 ? parent == NONE : grown.has(parent);
    if (!fits || grown.used >= MOST_NODES) {
      return -1;
    }
    int made = grown.used;
    int last = grown.childAt(parent, grown.childCount(parent) - 1);
    grown.make(made, type, label);
    grown.putBehind(made, parent, last);
    return made;
  }

  public boolean clear(int tree) {
    if (!isTree(tree)) {
      return false;
    }
    trees[tree].wipe();
    return true;
  }

  public int size(int tree) {
    return isTree(tree) ? trees[tree].used : -1;
  }

  public int height(int tree, int node) {
    if (!isTree(tree) || !trees[tree].has(node)) {
      return -1;
    }
    trees[tree].measureHeights(heights);
    return heights[node];
  }

  public boolean alike(int tree, int node, int otherTree, int otherNode) {
    return isTree(tree) && isTree(otherTree)
        && Forest.sameTwig(trees[tree], node, trees[otherTree], otherNode, 0);
  }

  public int diff(int from, int to) {
    if (!isFilled(from) || !isFilled(to)) {
      return -1;
    }
    start.copyFrom(trees[from]);
    latest.find(trees[from], trees[to]);
    hasDiff = true;
    return latest.script.length;
  }

  public int partner(int node) {
    return hasDiff && start.has(node) ? latest.partners.partnerOf(node) : -1;
  }

  public int step(int k, int what) {
    if (!hasDiff || k < 0 || k >= latest.script.length || what < 0 || what >= STEP_PARTS) {
      return UNKNOWN;
    }
    return latest.script.part(k, what);
  }

  public int count(int kind) {
    return hasDiff ? latest.script.countOf(kind) : 0;
  }

  public int replay(int k) {
    if (!hasDiff || k < 0 || k > latest.script.length) {
      return -1;
    }
    result.copyFrom(start);
    latest.script.performFirst(k, result);
    hasResult = true;
    return result.countThere();
  }

  public int merge() {
    if (!isFilled(BASE) || !isFilled(LEFT) || !isFilled(RIGHT)) {
      return -1;
    }
    int conflict = merger.run(trees[BASE], trees[LEFT], trees[RIGHT]);
    hasResult = conflict == NONE;
    return conflict == NONE ? 0 : 1 + conflict;
  }

  public int node(int node, int what) {
    if (!hasResult || !result.has(node)) {
      return UNKNOWN;
    }
    switch (what) {
      case 0:
        return result.parent[node];
      case 1:
        return result.place[node];
      case 2:
        return result.type[node];
      case 3:
        return result.label[node];
      default:
        return UNKNOWN;
    }
  }

  public boolean equal(int tree) {
    return hasResult && isTree(tree) && result.childCount(NONE) == 1
        && Forest.sameTwig(result, result.childAt(NONE, 0), trees[tree], 0, 0);
  }

  private static boolean isTree(int tree) {
    return tree >= 0 && tree < TREES;
  }

  private boolean isFilled(int tree) {
    return isTree(tree) && trees[tree].used > 0;
  }

  /**
   * Numbered nodes with children in order, of which several may be children of NONE for a time.
   * Only add makes the nodes of the three trees, so there a parent has a lesser number than its
   * children, and these stand in the order of their numbers; in a result neither is sure.
   */
  private static final class Forest {
    final int[] parent;
    final int[] place;
    final int[] type;
    final int[] label;
    /** All numbers from here on are free; below it some may be absent. */
    int used;

    Forest(int most) {
      parent = new int[most];
      place = new int[most];
      type = new int[most];
      label = new int[most];
      Arrays.fill(parent, ABSENT);
      used = 0;
    }

    void wipe() {
      Arrays.fill(parent, ABSENT);
      used = 0;
    }

    void copyFrom(Forest other) {
      wipe();
      used = Math.min(other.used, parent.length);
      System.arraycopy(other.parent, 0, parent, 0, used);
      System.arraycopy(other.place, 0, place, 0, used);
      System.arraycopy(other.type, 0, type, 0, used);
      System.arraycopy(other.label, 0, label, 0, used);
    }

    boolean has(int node) {
      return node >= 0 && node < used && parent[node] != ABSENT;
    }

    int countThere() {
      int there = 0;
      for (int n = 0; n < used; n++) {
        if (parent[n] != ABSENT) {
          there++;
        }
      }
      return there;
    }

    int childCount(int of) {
      int children = 0;
      for (int n = 0; n < used; n++) {
        if (parent[n] == of) {
          children++;
        }
      }
      return children;
    }

    int childAt(int of, int at) {
      for (int n = 0; n < used; n++) {
        if (parent[n] == of && place[n] == at) {
          return n;
        }
      }
      return NONE;
    }

    /** The node is not there before it has been put somewhere. */
    void make(int node, int newType, int newLabel) {
      if (node < 0 || node >= parent.length) {
        return;
      }
      type[node] = newType;
      label[node] = newLabel;
      used = Math.max(used, node + 1);
    }

    void putBehind(int node, int under, int behind) {
      if (node < 0 || node >= used) {
        return;
      }
      int at = has(behind) ? place[behind] + 1 : 0;
      for (int n = 0; n < used; n++) {
        if (parent[n] == under && place[n] >= at) {
          place[n]++;
        }
      }
      parent[node] = under;
      place[node] = at;
    }

    void takeOut(int node) {
      if (!has(node)) {
        return;
      }
      for (int n = 0; n < used; n++) {
        if (parent[n] == parent[node] && place[n] > place[node]) {
          place[n]--;
        }
      }
      parent[node] = ABSENT;
    }

    void relabel(int node, int newLabel) {
      if (has(node)) {
        label[node] = newLabel;
      }
    }

    boolean isAtOrBelow(int node, int top) {
      int up = node;
      for (int level = 0; level < used && has(up); level++) {
        if (up == top) {
          return true;
        }
        up = parent[up];
      }
      return false;
    }

    /** For the three trees only: going down the numbers, children come before their parents. */
    void measureHeights(int[] heights) {
      Arrays.fill(heights, 1);
      for (int n = used - 1; n > 0; n--) {
        heights[parent[n]] = Math.max(heights[parent[n]], heights[n] + 1);
      }
    }

    /** For the three trees only: bit n of below[m] says that n is below m. */
    void markBelow(int[] below) {
      Arrays.fill(below, 0);
      for (int n = used - 1; n > 0; n--) {
        below[parent[n]] |= below[n] | 1 << n;
      }
    }

    private static boolean sameTwig(Forest a, int x, Forest b, int y, int depth) {
      if (depth > DEEPEST || !a.has(x) || !b.has(y)) {
        return false;
      }
      if (a.type[x] != b.type[y] || a.label[x] != b.label[y]) {
        return false;
      }
      int children = a.childCount(x);
      if (children != b.childCount(y)) {
        return false;
      }
      for (int i = 0; i < children; i++) {
        if (!sameTwig(a, a.childAt(x, i), b, b.childAt(y, i), depth + 1)) {
          return false;
        }
      }
      return true;
    }
  }

  /** Steps in the order in which they are done, each with the parts that the call step tells. */
  private static final class Script {
    private final int[][] parts;
    int length;

    Script() {
      parts = new int[STEP_PARTS][MOST_STEPS];
      length = 0;
    }

    void wipe() {
      length = 0;
    }

    void insertNode(int node, int under, int behind, int type, int label) {
      write(INSERT, node, under, behind, type, label);
    }

    void updateNode(int node, int label) {
      write(UPDATE, node, NONE, NONE, -1, label);
    }

    void moveNode(int node, int under, int behind) {
      write(MOVE, node, under, behind, -1, 0);
    }

    void deleteNode(int node) {
      write(DELETE, node, NONE, NONE, -1, 0);
    }

    private void write(int kind, int node, int under, int behind, int type, int label) {
      if (length >= MOST_STEPS) {
        return;
      }
      parts[STEP_KIND][length] = kind;
      parts[STEP_NODE][length] = node;
      parts[STEP_PARENT][length] = under;
      parts[STEP_BEHIND][length] = behind;
      parts[STEP_TYPE][length] = type;
      parts[STEP_LABEL][length] = label;
      length++;
    }

    /** Both numbers must be in range. */
    int part(int k, int what) {
      return parts[what][k];
    }

    int countOf(int kind) {
      int found = 0;
      for (int k = 0; k < length; k++) {
        if (parts[STEP_KIND][k] == kind) {
          found++;
        }
      }
      return found;
    }

    /** A script has at most one step of a kind for a node. */
    int find(int kind, int node) {
      for (int k = 0; k < length; k++) {
        if (parts[STEP_KIND][k] == kind && parts[STEP_NODE][k] == node) {
          return k;
        }
      }
      return NONE;
    }

    void performFirst(int steps, Forest on) {
      for (int k = 0; k < steps && k < length; k++) {
        perform(k, on);
      }
    }

    private void perform(int k, Forest on) {
      int target = parts[STEP_NODE][k];
      switch (parts[STEP_KIND][k]) {
        case INSERT:
          on.make(target, parts[STEP_TYPE][k], parts[STEP_LABEL][k]);
          on.putBehind(target, parts[STEP_PARENT][k], parts[STEP_BEHIND][k]);
          break;
        case UPDATE:
          on.relabel(target, parts[STEP_LABEL][k]);
          break;
        case MOVE:
          on.takeOut(target);
          on.putBehind(target, parts[STEP_PARENT][k], parts[STEP_BEHIND][k]);
          break;
        default:
          on.takeOut(target);
          break;
      }
    }
  }

  /** Which nodes of one tree have a partner in another one. */
  private static final class Partners {
    private final int[] partner;
    private final int[] owner;
    private final int[] fromHeights;
    private final int[] fromBelow;
    private final int[] toBelow;
    /** Bit y of alikes[x] says that x and y are alike and of height 2 or more. */
    private final int[] alikes;
    private Forest from;
    private Forest to;

    Partners() {
      partner = new int[MOST_NODES];
      owner = new int[MOST_NODES];
      fromHeights = new int[MOST_NODES];
      fromBelow = new int[MOST_NODES];
      toBelow = new int[MOST_NODES];
      alikes = new int[MOST_NODES];
      from = new Forest(0);
      to = from;
    }

    /** The node must be in range. */
    int partnerOf(int x) {
      return partner[x];
    }

    /** Whose partner a node is, which must be in range. */
    int ownerOf(int y) {
      return owner[y];
    }

    void find(Forest oneTree, Forest otherTree) {
      from = oneTree;
      to = otherTree;
      Arrays.fill(partner, NONE);
      Arrays.fill(owner, NONE);
      from.measureHeights(fromHeights);
      from.markBelow(fromBelow);
      to.markBelow(toBelow);
      markAlikes();
      boolean again = true;
      for (int round = 0; round < MOST_NODES && again; round++) {
        again = joinBestAlikes();
      }
      joinByShare();
      joinRoots();
    }

    private void join(int x, int y) {
      partner[x] = y;
      owner[y] = x;
    }

    private int share(int x, int y) {
      int shared = 0;
      for (int n = x + 1; n < from.used; n++) {
        boolean counts = (fromBelow[x] >> n & 1) != 0 && partner[n] != NONE;
        if (counts && (toBelow[y] >> partner[n] & 1) != 0) {
          shared++;
        }
      }
      return shared;
    }

    private void markAlikes() {
      for (int x = 0; x < from.used; x++) {
        alikes[x] = 0;
        for (int y = 0; y < to.used && fromHeights[x] >= 2; y++) {
          if (Forest.sameTwig(from, x, to, y, 0)) {
            alikes[x] |= 1 << y;
          }
        }
      }
    }

    /** False when there were none. */
    private boolean joinBestAlikes() {
      int bestX = NONE;
      int bestY = NONE;
      int bestHeight = 0;
      int bestShare = 0;
      for (int x = 0; x < from.used; x++) {
        for (int y = 0; y < to.used; y++) {
          if (!areFreeAlikes(x, y) || fromHeights[x] < bestHeight) {
            continue;
          }
          int share = shareOfParents(x, y);
          if (fromHeights[x] > bestHeight || share > bestShare) {
            bestX = x;
            bestY = y;
            bestHeight = fromHeights[x];
            bestShare = share;
          }
        }
      }
      if (bestX != NONE) {
        joinTwigs(bestX, bestY, 0);
      }
      return bestX != NONE;
    }

    private boolean areFreeAlikes(int x, int y) {
      return (alikes[x] >> y & 1) != 0 && partner[x] == NONE && owner[y] == NONE;
    }

    private int shareOfParents(int x, int y) {
      return x == 0 || y == 0 ? 0 : share(from.parent[x], to.parent[y]);
    }

    private void joinTwigs(int x, int y, int depth) {
      if (depth > DEEPEST || !from.has(x) || !to.has(y)) {
        return;
      }
      join(x, y);
      int children = from.childCount(x);
      for (int i = 0; i < children; i++) {
        joinTwigs(from.childAt(x, i), to.childAt(y, i), depth + 1);
      }
    }

    private void joinByShare() {
      for (int x = from.used - 1; x >= 0; x--) {
        int y = partner[x] == NONE ? bestByShare(x) : NONE;
        if (y != NONE) {
          join(x, y);
          pairChildren(x, y);
        }
      }
    }

    private int bestByShare(int x) {
      int best = NONE;
      int bestShare = 0;
      int bestBelow = 1;
      for (int y = 0; y < to.used; y++) {
        if (owner[y] != NONE || from.type[x] != to.type[y]) {
          continue;
        }
        int share = share(x, y);
        int below = Integer.bitCount(fromBelow[x]) + Integer.bitCount(toBelow[y]);
        boolean enough = share >= 1 && 4 * share >= below;
        // Fractions are compared by cross products, which stay exact.
        if (enough && share * bestBelow > bestShare * below) {
          best = y;
          bestShare = share;
          bestBelow = below;
        }
      }
      return best;
    }

    private void joinRoots() {
      boolean free = partner[0] == NONE && owner[0] == NONE;
      if (free && from.type[0] == to.type[0]) {
        join(0, 0);
        pairChildren(0, 0);
      }
    }

    private void pairChildren(int x, int y) {
      pairChildrenOnce(x, y, true);
      pairChildrenOnce(x, y, false);
    }

    private void pairChildrenOnce(int x, int y, boolean withLabel) {
      for (int child = x + 1; child < from.used; child++) {
        if (from.parent[child] != x || partner[child] != NONE) {
          continue;
        }
        int match = firstFreeChild(y, child, withLabel);
        if (match != NONE) {
          join(child, match);
        }
      }
    }

    private int firstFreeChild(int y, int like, boolean withLabel) {
      for (int child = y + 1; child < to.used; child++) {
        boolean free = to.parent[child] == y && owner[child] == NONE;
        boolean sameType = to.type[child] == from.type[like];
        boolean labelFits = !withLabel || to.label[child] == from.label[like];
        if (free && sameType && labelFits) {
          return child;
        }
      }
      return NONE;
    }
  }

  /** The partners of two trees, and the script that makes the one into the other. */
  private static final class Difference {
    final Partners partners;
    final Script script;
    private final boolean[] settled;
    private final int[] row;
    /** The places of the partners of those in the row. */
    private final int[] places;
    private final int[] reach;
    private Forest from;
    private Forest to;
    private int inserts;

    Difference() {
      partners = new Partners();
      script = new Script();
      settled = new boolean[MOST_NODES];
      row = new int[MOST_NODES];
      places = new int[MOST_NODES];
      reach = new int[MOST_NODES];
      from = new Forest(0);
      to = from;
      inserts = 0;
    }

    /** Neither tree may be empty. */
    void find(Forest oneTree, Forest otherTree) {
      from = oneTree;
      to = otherTree;
      inserts = 0;
      partners.find(from, to);
      settleAll();
      script.wipe();
      writeTwig(0, NONE, NONE, 0);
      writeDeletes();
    }

    private void settleAll() {
      for (int x = 0; x < from.used; x++) {
        settled[x] = false;
      }
      settleChildren(NONE, NONE);
      for (int a = 0; a < from.used; a++) {
        if (partners.partnerOf(a) != NONE) {
          settleChildren(a, partners.partnerOf(a));
        }
      }
    }

    private void settleChildren(int a, int b) {
      int size = gatherKept(a, b);
      int due = measureReach(size);
      int lastPlace = NONE;
      for (int i = 0; i < size && due > 0; i++) {
        if (reach[i] == due && places[i] > lastPlace) {
          settled[row[i]] = true;
          lastPlace = places[i];
          due--;
        }
      }
    }

    /** Puts the children of a whose partners are children of b into the row: how many. */
    private int gatherKept(int a, int b) {
      int size = 0;
      for (int x = 0; x < from.used; x++) {
        int y = partners.partnerOf(x);
        if (from.parent[x] == a && y != NONE && to.parent[y] == b) {
          row[size] = x;
          places[size] = to.place[y];
          size++;
        }
      }
      return size;
    }

    /** How long the longest ordered part of the row is that begins at each: the greatest. */
    private int measureReach(int size) {
      int longest = 0;
      for (int i = size - 1; i >= 0; i--) {
        reach[i] = 1;
        for (int j = i + 1; j < size; j++) {
          if (places[i] < places[j]) {
            reach[i] = Math.max(reach[i], reach[j] + 1);
          }
        }
        longest = Math.max(longest, reach[i]);
      }
      return longest;
    }

    /** Writes the steps for y and all below it: y's counterpart. */
    private int writeTwig(int y, int under, int behind, int depth) {
      if (depth > DEEPEST) {
        return NONE;
      }
      int counterpart = writeNode(y, under, behind);
      int before = NONE;
      for (int child = y + 1; child < to.used; child++) {
        if (to.parent[child] == y) {
          before = writeTwig(child, counterpart, before, depth + 1);
        }
      }
      return counterpart;
    }

    private int writeNode(int y, int under, int behind) {
      int x = partners.ownerOf(y);
      if (x == NONE) {
        int made = from.used + inserts;
        inserts++;
        script.insertNode(made, under, behind, to.type[y], to.label[y]);
        return made;
      }
      if (from.label[x] != to.label[y]) {
        script.updateNode(x, to.label[y]);
      }
      if (!settled[x]) {
        script.moveNode(x, under, behind);
      }
      return x;
    }

    private void writeDeletes() {
      for (int x = from.used - 1; x >= 0; x--) {
        if (partners.partnerOf(x) == NONE) {
          script.deleteNode(x);
        }
      }
    }
  }

  /** Does the script from BASE to LEFT on BASE, and then, as far as it can, that to RIGHT. */
  private static final class Merger {
    final Forest result;
    private final Difference toLeft;
    private final Difference toRight;
    private final Script first;
    private final Script second;
    /** Which steps of the first script were taken for an INSERT of the second one. */
    private final boolean[] taken;
    /** The nodes that the INSERTs of the second script made or stand for. */
    private final int[] meant;
    private int baseSize;
    private int inserts;

    Merger() {
      result = new Forest(MOST_MERGED);
      toLeft = new Difference();
      toRight = new Difference();
      first = toLeft.script;
      second = toRight.script;
      taken = new boolean[MOST_STEPS];
      meant = new int[MOST_NODES];
      baseSize = 0;
      inserts = 0;
    }

    /** The step of the second script that is a conflict, or NONE. No tree may be empty. */
    int run(Forest base, Forest left, Forest right) {
      toLeft.find(base, left);
      toRight.find(base, right);
      baseSize = base.used;
      inserts = 0;
      for (int k = 0; k < MOST_STEPS; k++) {
        taken[k] = false;
      }
      result.copyFrom(base);
      first.performFirst(first.length, result);
      for (int k = 0; k < second.length; k++) {
        if (!mergeStep(k)) {
          return k;
        }
      }
      return NONE;
    }

    /** False for a conflict, here and in the four methods that it calls. */
    private boolean mergeStep(int k) {
      switch (second.part(k, STEP_KIND)) {
        case INSERT:
          return mergeInsert(k);
        case UPDATE:
          return mergeUpdate(k);
        case MOVE:
          return mergeMove(k);
        default:
          return mergeDelete(k);
      }
    }

    private boolean mergeInsert(int k) {
      int under = meaning(second.part(k, STEP_PARENT));
      int behind = meaning(second.part(k, STEP_BEHIND));
      int twin = findTwin(k, under, behind);
      if (twin != NONE) {
        taken[twin] = true;
        remember(first.part(twin, STEP_NODE));
        return true;
      }
      int made = baseSize + first.countOf(INSERT) + inserts;
      remember(made);
      if (!canPut(under, behind)) {
        return false;
      }
      result.make(made, second.part(k, STEP_TYPE), second.part(k, STEP_LABEL));
      result.putBehind(made, under, behind);
      return true;
    }

    private boolean mergeUpdate(int k) {
      int target = second.part(k, STEP_NODE);
      int label = second.part(k, STEP_LABEL);
      if (!result.has(target)) {
        return false;
      }
      int other = first.find(UPDATE, target);
      if (other != NONE) {
        return first.part(other, STEP_LABEL) == label;
      }
      result.relabel(target, label);
      return true;
    }

    private boolean mergeMove(int k) {
      int target = second.part(k, STEP_NODE);
      int under = meaning(second.part(k, STEP_PARENT));
      int behind = meaning(second.part(k, STEP_BEHIND));
      if (!result.has(target)) {
        return false;
      }
      int other = first.find(MOVE, target);
      if (other != NONE) {
        return isPutAt(other, under, behind);
      }
      if (!canPut(under, behind) || result.isAtOrBelow(under, target)) {
        return false;
      }
      result.takeOut(target);
      result.putBehind(target, under, behind);
      return true;
    }

    private boolean mergeDelete(int k) {
      int target = second.part(k, STEP_NODE);
      if (first.find(DELETE, target) != NONE) {
        return true;
      }
      boolean changed = first.find(UPDATE, target) != NONE || first.find(MOVE, target) != NONE;
      if (changed || result.childCount(target) > 0) {
        return false;
      }
      result.takeOut(target);
      return true;
    }

    /** The first INSERT of the first script that can be taken for step k of the second one. */
    private int findTwin(int k, int under, int behind) {
      for (int other = 0; other < first.length; other++) {
        boolean free = first.part(other, STEP_KIND) == INSERT && !taken[other];
        if (free && isPutAt(other, under, behind)
            && first.part(other, STEP_TYPE) == second.part(k, STEP_TYPE)
            && first.part(other, STEP_LABEL) == second.part(k, STEP_LABEL)) {
          return other;
        }
      }
      return NONE;
    }

    private boolean isPutAt(int step, int under, int behind) {
      return first.part(step, STEP_PARENT) == under && first.part(step, STEP_BEHIND) == behind;
    }

    private boolean canPut(int under, int behind) {
      boolean parentThere = under == NONE || result.has(under);
      boolean placeThere = behind == NONE || result.has(behind) && result.parent[behind] == under;
      return parentThere && placeThere;
    }

    private void remember(int made) {
      if (inserts < MOST_NODES) {
        meant[inserts] = made;
        inserts++;
      }
    }

    /** The node of the result that a number of the second script names. */
    private int meaning(int named) {
      int insert = named - baseSize;
      return insert >= 0 && insert < inserts ? meant[insert] : named;
    }
  }
}
