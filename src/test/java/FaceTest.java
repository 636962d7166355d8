import java.lang.reflect.Constructor;
import java.lang.reflect.Field;
import java.lang.reflect.Method;
import java.lang.reflect.Modifier;
import java.util.TreeSet;

/** The public face, and a new object (promise 1). */
public final class FaceTest {
  private static final String FACE =
      "cell compile count fault fire kind start state type value";

  public static void main(String[] args) {
    face();
    newObject();
    objectsAreApart();
    Check.end();
  }

  private static void face() {
    TreeSet<String> names = new TreeSet<>();
    for (Method m : TagFlow.class.getDeclaredMethods()) {
      if (Modifier.isPublic(m.getModifiers())) {
        names.add(m.getName());
      } else {
        Check.due("private " + m, Modifier.isPrivate(m.getModifiers()) ? 1 : 0, 1);
        Check.due("own name " + m, FACE.contains(m.getName()) ? 1 : 0, 0);
      }
    }
    Check.due("the methods " + names, String.join(" ", names).equals(FACE) ? 1 : 0, 1);
    for (Field f : TagFlow.class.getDeclaredFields()) {
      boolean isPrivate = Modifier.isPrivate(f.getModifiers());
      Check.due("field " + f, isPrivate ? 1 : 0, f.getName().equals("NONE") ? 0 : 1);
    }
    Constructor<?>[] constructors = TagFlow.class.getDeclaredConstructors();
    Check.due("constructors", constructors.length, 1);
    Check.due("public", Modifier.isPublic(constructors[0].getModifiers()) ? 1 : 0, 1);
    Check.due("final", Modifier.isFinal(TagFlow.class.getModifiers()) ? 1 : 0, 1);
    Check.due("NONE", TagFlow.NONE, -1);
  }

  private static void newObject() {
    TagFlow x = new TagFlow();
    Check.due("state", x.state(), 0);
    Check.due("kind", x.kind(), 0);
    Check.due("value", Check.value(x), Check.NO_SUCH_ELEMENT);
    Check.due("cell", Check.cell(x, 0, 0), Check.NO_SUCH_ELEMENT);
    Check.due("fault(0)", x.fault(0), 0);
    Check.due("fault(1)", x.fault(1), 0);
    for (int what = 0; what < 4; what++) {
      Check.due("count " + what, x.count(what), 0);
    }
    Check.due("fire", Check.fire(x, 1, 1), Check.ILLEGAL_STATE);
    Check.due("start", Check.start(x, 0, 1) ? 1 : 0, 0);
    Check.due("compile of the empty tape", Check.compile(x), Check.ILLEGAL_ARGUMENT);
  }

  private static void objectsAreApart() {
    TagFlow x = Check.program("f(n)=n+1;");
    TagFlow y = Check.program("f(n)=n*n;g()=2;");
    Check.start(x, 0, 7);
    Check.start(y, 0, 7);
    Check.due("fire of x", Check.fire(x, 9, 0), 1);
    Check.due("state of y", y.state(), 1);
    Check.due("value of x", Check.value(x), 8);
    Check.due("count of y", y.count(1), 0);
    Check.due("functions of x", x.count(2), 1);
  }
}
