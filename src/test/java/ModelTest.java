import java.lang.reflect.InvocationTargetException;
import java.lang.reflect.Method;
import java.util.ArrayList;
import java.util.Arrays;
import java.util.HashMap;
import java.util.List;
import java.util.Map;
import java.util.TreeMap;

/**
 * Makes the same calls on the program and on a second, slow one that was written after the words
 * of the document, over many made-up trees (the same ones each time), and compares all answers.
 */
public final class ModelTest {
  private static final int RUNS = 10000;
  private static final int MOST_CALLS = 512;
  private static final int[] WILD = {Integer.MIN_VALUE, -3, -2, -1, 0, 1, 2, 3, 4, 5, 6, 7, 8, 11,
      12, 13, 23, 24, 25, 35, 36, 256, Integer.MAX_VALUE};
  private static final Map<String, Method> PROGRAM = methodsOf(TwigMerge.class);
  private static final Map<String, Method> MODEL = methodsOf(SlowTwigMerge.class);
  private static final String[] NAMES = new TreeMap<>(PROGRAM).keySet().toArray(new String[0]);
  private static long seed = 20261115L;

  private static int pick(int below) {
    seed = seed * 6364136223846793005L + 1442695040888963407L;
    return (int) ((seed >>> 33) % below);
  }

  private static Map<String, Method> methodsOf(Class<?> type) {
    Map<String, Method> found = new HashMap<>();
    for (Method method : type.getDeclaredMethods()) {
      if (!java.lang.reflect.Modifier.isPrivate(method.getModifiers())) {
        found.put(method.getName(), method);
      }
    }
    return found;
  }

  private static Object answer(Map<String, Method> methods, Object of, String name, int[] numbers) {
    Object[] arguments = new Object[numbers.length];
    for (int i = 0; i < numbers.length; i++) {
      arguments[i] = numbers[i];
    }
    try {
      return methods.get(name).invoke(of, arguments);
    } catch (InvocationTargetException thrown) {
      return thrown.getCause();
    } catch (IllegalAccessException refused) {
      throw new IllegalStateException(refused);
    }
  }

  private record Call(String name, int[] numbers, Object got) {
    @Override
    public String toString() {
      String inside = Arrays.toString(numbers);
      return name + "(" + inside.substring(1, inside.length() - 1) + ") answered " + got;
    }
  }

  /** Two objects that get the same calls. */
  private static final class Run {
    private final TwigMerge program = new TwigMerge();
    private final SlowTwigMerge model = new SlowTwigMerge();
    private final List<Call> told = new ArrayList<>();
    private boolean right = true;

    /** What the model answers. Nothing is promised of an object after its 512th call. */
    int ask(String name, int... numbers) {
      Object due = answer(MODEL, model, name, numbers);
      if (told.size() < MOST_CALLS && right) {
        Object got = answer(PROGRAM, program, name, numbers);
        told.add(new Call(name, numbers, got));
        right = due.equals(got);
        if (!right) {
          told.forEach(System.out::println);
          System.out.println(".. but due is " + due);
        }
      }
      return due instanceof Integer ? (Integer) due : 0;
    }

    boolean isOpen() {
      return right && told.size() < MOST_CALLS;
    }

    void load(int tree, SlowTwigMerge.Tree shape) {
      ask("clear", tree);
      for (int n = 0; n < shape.size(); n++) {
        SlowTwigMerge.Node node = shape.get(n);
        ask("add", tree, node.parent.number, node.type, node.label);
      }
    }

    void lookAtDiff() {
      for (int n = 0; n < 12; n++) {
        ask("partner", n);
      }
      for (int kind = 0; kind < 4; kind++) {
        ask("count", kind);
      }
      for (int k = 0; model.step(k, 0) != -2; k++) {
        for (int what = 0; what < 6; what++) {
          ask("step", k, what);
        }
      }
    }

    void lookAtResult() {
      for (int n = 0; n < 36; n++) {
        for (int what = 0; what < 4 && (what == 0 || model.node(n, 0) != -2); what++) {
          ask("node", n, what);
        }
      }
      for (int tree = 0; tree < 3; tree++) {
        ask("equal", tree);
      }
    }

    int steps() {
      return model.count(0) + model.count(1) + model.count(2) + model.count(3);
    }

    void askWildly() {
      String name = NAMES[pick(NAMES.length)];
      int[] numbers = new int[PROGRAM.get(name).getParameterCount()];
      for (int i = 0; i < numbers.length; i++) {
        numbers[i] = pick(4) == 0 ? WILD[pick(WILD.length)] : pick(i % 2 == 0 ? 3 : 12);
      }
      ask(name, numbers);
    }

    void askAnything(SlowTwigMerge.Tree[] shapes) {
      switch (pick(8)) {
        case 0:
          ask("diff", pick(3), pick(3));
          break;
        case 1:
          ask("replay", pick(steps() + 1));
          break;
        case 2:
          ask("merge");
          break;
        case 3:
          ask("add", pick(3), pick(12), pick(3), pick(3));
          break;
        case 4:
          if (pick(4) == 0) {
            load(pick(3), shapes[pick(3)]);
          }
          break;
        default:
          askWildly();
          break;
      }
    }
  }

  private static SlowTwigMerge.Node grow(SlowTwigMerge.Tree tree, int number, int parent,
      int type, int label) {
    SlowTwigMerge.Node under = tree.get(parent);
    SlowTwigMerge.Node made = tree.make(number, type, label);
    made.parent = under;
    under.children.add(made);
    return made;
  }

  private static SlowTwigMerge.Tree randomTree(int size, int types, int labels, int shape) {
    SlowTwigMerge.Tree tree = new SlowTwigMerge.Tree();
    grow(tree, 0, -1, pick(types), pick(labels));
    for (int n = 1; n < size; n++) {
      int deep = Math.max(0, n - 1 - pick(3));
      int flat = pick(Math.min(n, 3));
      int parent = shape == 0 ? pick(n) : shape == 1 ? deep : flat;
      grow(tree, n, parent, pick(types), pick(labels));
    }
    return tree;
  }

  private static SlowTwigMerge.Tree edited(SlowTwigMerge.Tree old, int edits, int types,
      int labels) {
    SlowTwigMerge.Tree tree = old.copy();
    for (int e = 0; e < edits; e++) {
      List<SlowTwigMerge.Node> all = tree.top.below();
      SlowTwigMerge.Node node = all.get(pick(all.size()));
      SlowTwigMerge.Node other = all.get(pick(all.size()));
      int kind = pick(4);
      boolean inside = node == other || node.below().contains(other);
      boolean isRoot = node.parent == tree.top;
      if (kind == 0 && all.size() < 12) {
        SlowTwigMerge.Node made = grow(tree, 100 + e, other.number, pick(types), pick(labels));
        other.children.remove(made);
        other.children.add(pick(other.children.size() + 1), made);
      } else if (kind == 1) {
        node.label = pick(labels);
      } else if (kind == 2 && !inside && !isRoot) {
        node.parent.children.remove(node);
        node.parent = other;
        other.children.add(pick(other.children.size() + 1), node);
      } else if (kind == 3 && node.children.isEmpty() && !isRoot) {
        node.parent.children.remove(node);
      }
    }
    return renumbered(tree);
  }

  /** As if it had been added depth first, or level by level. */
  private static SlowTwigMerge.Tree renumbered(SlowTwigMerge.Tree tree) {
    SlowTwigMerge.Tree made = new SlowTwigMerge.Tree();
    List<SlowTwigMerge.Node> open = new ArrayList<>(tree.top.children);
    Map<SlowTwigMerge.Node, Integer> numbers = new HashMap<>();
    numbers.put(tree.top, -1);
    boolean deep = pick(2) == 0;
    while (!open.isEmpty()) {
      SlowTwigMerge.Node node = open.remove(0);
      numbers.put(node, made.size());
      grow(made, made.size(), numbers.get(node.parent), node.type, node.label);
      open.addAll(deep ? 0 : open.size(), node.children);
    }
    return made;
  }

  private static SlowTwigMerge.Tree[] randomTrees() {
    int types = 1 + pick(4);
    int labels = 1 + pick(4);
    SlowTwigMerge.Tree base = randomTree(1 + pick(12), types, labels, pick(3));
    SlowTwigMerge.Tree[] trees = {base, null, null};
    for (int t = 1; t < 3; t++) {
      trees[t] = pick(8) == 0 ? randomTree(1 + pick(12), types, labels, pick(3))
          : edited(base, pick(9), types, labels);
    }
    return trees;
  }

  private static boolean isRightInOrder() {
    SlowTwigMerge.Tree[] shapes = randomTrees();
    Run run = new Run();
    for (int tree = 0; tree < 3; tree++) {
      run.load(tree, shapes[tree]);
    }
    run.ask("merge");
    run.lookAtResult();
    int steps = run.ask("diff", pick(3), pick(3));
    run.lookAtDiff();
    run.ask("replay", pick(steps + 1));
    run.lookAtResult();
    for (int k = 0; k <= steps; k++) {
      run.ask("replay", k);
      run.ask("equal", pick(3));
    }
    return run.right;
  }

  private static boolean isRightInDisorder() {
    SlowTwigMerge.Tree[] shapes = randomTrees();
    Run run = new Run();
    for (int tree = 0; tree < 3; tree++) {
      run.load(tree, shapes[tree]);
    }
    for (int turn = pick(120); turn >= 0 && run.isOpen(); turn--) {
      run.askAnything(shapes);
    }
    run.lookAtResult();
    run.lookAtDiff();
    return run.right;
  }

  public static void main(String[] args) {
    int wrong = 0;
    for (int i = 0; i < RUNS && wrong < 3; i++) {
      wrong += isRightInOrder() && isRightInDisorder() ? 0 : 1;
    }
    System.out.println(wrong == 0 ? "all answers are as due" : "not all answers are as due");
    if (wrong != 0) {
      System.exit(1);
    }
  }
}
