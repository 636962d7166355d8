import java.lang.reflect.Array;
import java.lang.reflect.Field;
import java.lang.reflect.Modifier;
import java.util.IdentityHashMap;

/** How much an object holds, and that no tape makes it hold, or nest, too much. */
public final class RoomTest {
  private static final long MOST_AT_FIRST = 50_000;
  private static final long MOST_AT_ALL = 2_000_000;
  /** Of all that a run of calls makes, kept or not; the rows grow by doubling, so it is little more. */
  private static final long MOST_BYTES_MADE = 20_000_000;

  public static void main(String[] args) {
    Check.due("room of a new object", room(new TagFlow()) < MOST_AT_FIRST ? 1 : 0, 1);
    dear("f(n)=" + "-".repeat(490) + "f(n);");
    dear("f(n)=f(n)" + "+1".repeat(244) + ";");
    dear("f(n)=f(n)" + "+f(n)".repeat(97) + ";");
    dear("f(n)=let a=f(n)in a" + "+a".repeat(238) + ";");
    dear("f(n)=let a=f(n)in loop k=0,j=0 while k<k+1 next k=k+1,j=a" + "+a".repeat(200) + " give 1;");
    dear("f(n)=(tab z[i<20]of f(i)" + "+1".repeat(230) + ")[0];");
    dear("f(n)=(tab z[i<20]of " + "-".repeat(460) + "z[i])[0]+f(n);");
    dear("f(n)=" + "f(".repeat(19) + "n" + ")".repeat(19) + ";");
    dear(loops());
    manyCalls();
    manyPrograms();
    Check.end();
  }

  /** Loops in the conditions of loops: all their first rounds are entered at once. */
  private static String loops() {
    StringBuilder head = new StringBuilder("f(n)=f(n)+(");
    StringBuilder tail = new StringBuilder();
    for (char c = 'a'; c < 'm'; c++) {
      head.append("loop ").append(c).append("=n while ");
      tail.insert(0, " next " + c + "=1 give true");
    }
    String last = " give true";
    tail.setLength(tail.length() - last.length());
    return head + "n<n" + tail + " give 1);";
  }

  private static void dear(String text) {
    long before = madeBytes();
    TagFlow x = Check.program(text);
    for (int i = 0; i < 5; i++) {
      Check.start(x, 0, 1);
      Check.due("fire of " + text, Check.fire(x, 2000, i), 1000);
      Check.due("state of " + text, x.state(), 4);
    }
    long made = madeBytes() - before;
    Check.due("bytes made " + made + " of " + text, made < MOST_BYTES_MADE, true);
    long room = room(x);
    Check.due("room " + room + " of " + text, room < MOST_AT_ALL ? 1 : 0, 1);
  }

  /** What is made anew in each call would be counted here 400 times, for none of it is kept. */
  private static void manyCalls() {
    TagFlow x = Check.program("f(n)=loop k=0 while k<n next k=k+1 give k;");
    long before = room(x);
    for (int i = 0; i < 400; i++) {
      Check.start(x, 0, 2);
      if (x.count(1) < 5000) {
        Check.fire(x, 3, i);
      }
    }
    Check.due("room of many RUNS", room(x), before);
  }

  /** What a PROGRAM leaves behind in the rows would make the RUNS of a later one dearer. */
  private static void manyPrograms() {
    TagFlow x = new TagFlow();
    long first = 0;
    for (int i = 0; i < 12; i++) {
      Check.due("compile", Check.compile(x, "f(n)=f(n)" + "+1".repeat(100) + ";"), 1);
      Check.start(x, 0, 1);
      if (x.count(1) < 5000) {
        Check.fire(x, 400, i);
      }
      first = i == 0 ? room(x) : first;
      Check.due("room of PROGRAM " + i, room(x), first);
    }
  }

  private static long madeBytes() {
    java.lang.management.ThreadMXBean threads =
        java.lang.management.ManagementFactory.getThreadMXBean();
    boolean counts = threads instanceof com.sun.management.ThreadMXBean;
    return counts ? ((com.sun.management.ThreadMXBean) threads).getCurrentThreadAllocatedBytes() : 0;
  }

  /** The objects, fields and elements that hang on an object. */
  private static long room(Object root) {
    IdentityHashMap<Object, Boolean> seen = new IdentityHashMap<>();
    try {
      return walk(root, seen);
    } catch (IllegalAccessException e) {
      throw new AssertionError(e);
    }
  }

  private static long walk(Object x, IdentityHashMap<Object, Boolean> seen)
      throws IllegalAccessException {
    if (x == null || seen.put(x, true) != null) {
      return 0;
    }
    if (x.getClass().isArray()) {
      return 1 + Array.getLength(x);
    }
    long sum = 1;
    for (Field f : x.getClass().getDeclaredFields()) {
      if (!Modifier.isStatic(f.getModifiers())) {
        f.setAccessible(true);
        sum += 1 + (f.getType().isPrimitive() ? 0 : walk(f.get(x), seen));
      }
    }
    return sum;
  }
}
