import java.lang.reflect.Constructor;
import java.lang.reflect.Field;
import java.lang.reflect.Method;
import java.lang.reflect.Modifier;
import java.util.Set;
import java.util.TreeSet;

/** Looks at the members of the class, and that no call throws, whatever its arguments are. */
public final class FaceTest {
  private static final int[] EDGES = {Integer.MIN_VALUE, -3, -2, -1, 0, 1, 2, 3, 4, 5, 6, 7, 8,
      11, 12, 13, 24, 35, 36, 37, Integer.MAX_VALUE};
  private static int wrong = 0;
  private static long seed = 7L;

  private static void expect(String what, boolean holds) {
    if (!holds) {
      wrong++;
      System.out.println("does not hold: " + what);
    }
  }

  private static int edge() {
    seed = seed * 6364136223846793005L + 1442695040888963407L;
    return EDGES[(int) ((seed >>> 33) % EDGES.length)];
  }

  private static String describe(Method method) {
    StringBuilder text = new StringBuilder();
    text.append(method.getReturnType().getName()).append(' ').append(method.getName());
    for (Class<?> type : method.getParameterTypes()) {
      text.append(' ').append(type.getName());
    }
    return text.toString();
  }

  private static void lookAtMembers() {
    Set<String> face = new TreeSet<>(Set.of("int add int int int int", "boolean clear int",
        "int size int", "int height int int", "boolean alike int int int int",
        "int diff int int", "int partner int", "int step int int", "int count int",
        "int replay int", "int merge", "int node int int", "boolean equal int"));
    Set<String> names = new TreeSet<>();
    Set<String> found = new TreeSet<>();
    for (Method method : TwigMerge.class.getDeclaredMethods()) {
      if (Modifier.isPublic(method.getModifiers())) {
        found.add(describe(method));
        names.add(method.getName());
        expect("no static method of the face", !Modifier.isStatic(method.getModifiers()));
      }
    }
    expect("the face is " + face + ", not " + found, face.equals(found));
    for (Method method : TwigMerge.class.getDeclaredMethods()) {
      boolean isPublic = Modifier.isPublic(method.getModifiers());
      boolean isPrivate = Modifier.isPrivate(method.getModifiers());
      expect("private: " + method, isPublic || isPrivate);
      expect("a name of its own: " + method, isPublic || !names.contains(method.getName()));
    }
    for (Field field : TwigMerge.class.getDeclaredFields()) {
      expect("private: " + field, Modifier.isPrivate(field.getModifiers()));
      expect("no static state: " + field, !Modifier.isStatic(field.getModifiers())
          || Modifier.isFinal(field.getModifiers()));
    }
    Constructor<?>[] constructors = TwigMerge.class.getDeclaredConstructors();
    expect("one constructor", constructors.length == 1);
    expect("public, without parameters", Modifier.isPublic(constructors[0].getModifiers())
        && constructors[0].getParameterCount() == 0);
    int modifiers = TwigMerge.class.getModifiers();
    expect("public and final", modifiers == (Modifier.PUBLIC | Modifier.FINAL));
    for (Class<?> inside : TwigMerge.class.getDeclaredClasses()) {
      expect("static, and not public: " + inside, Modifier.isStatic(inside.getModifiers())
          && !Modifier.isPublic(inside.getModifiers()));
    }
  }

  private static void callAnything() throws ReflectiveOperationException {
    Method[] methods = TwigMerge.class.getMethods();
    java.util.Arrays.sort(methods, (a, b) -> a.getName().compareTo(b.getName()));
    for (int run = 0; run < 2000; run++) {
      TwigMerge x = new TwigMerge();
      for (int call = 0; call < 512; call++) {
        Method method = methods[Math.floorMod(edge() * 31 + call, methods.length)];
        if (method.getDeclaringClass() != TwigMerge.class) {
          continue;
        }
        Object[] arguments = new Object[method.getParameterCount()];
        for (int i = 0; i < arguments.length; i++) {
          arguments[i] = edge();
        }
        boolean grow = arguments.length == 4 && call % 2 == 0;
        if (grow) {
          int tree = call / 2 % 3;
          x.add(tree, x.size(tree) == 0 ? -1 : edge(), call % 5, call % 3);
        } else {
          call(x, method, arguments);
        }
      }
    }
  }

  private static TwigMerge full() {
    TwigMerge x = new TwigMerge();
    for (int tree = 0; tree < 3; tree++) {
      for (int n = 0; n < 12; n++) {
        x.add(tree, n - 1, tree, n);
      }
    }
    return x;
  }

  /** A run has a room for what it makes, so all rows are made by the constructor. */
  private static void countWhatCallsMake() {
    com.sun.management.ThreadMXBean threads =
        (com.sun.management.ThreadMXBean) java.lang.management.ManagementFactory.getThreadMXBean();
    long made = 0;
    for (int run = 0; run < 3; run++) {
      TwigMerge x = full();
      made = threads.getCurrentThreadAllocatedBytes();
      for (int call = 0; call < 470; call += 5) {
        x.diff(call % 3, (call + 1) % 3);
        x.replay(12);
        x.merge();
        x.alike(0, 0, 1, 0);
        x.equal(2);
      }
      made = threads.getCurrentThreadAllocatedBytes() - made;
    }
    expect("hardly any bytes are made by calls, not " + made, made < 4096);
  }

  private static void call(TwigMerge x, Method method, Object[] arguments)
      throws ReflectiveOperationException {
    try {
      method.invoke(x, arguments);
    } catch (java.lang.reflect.InvocationTargetException e) {
      expect("no throw: " + method + " " + java.util.Arrays.toString(arguments) + " "
          + e.getCause(), false);
    }
  }

  public static void main(String[] args) throws ReflectiveOperationException {
    lookAtMembers();
    callAnything();
    countWhatCallsMake();
    System.out.println(wrong == 0 ? "all of it holds" : wrong + " things do not hold");
    if (wrong != 0) {
      System.exit(1);
    }
  }
}
