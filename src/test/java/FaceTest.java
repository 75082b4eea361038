import java.lang.reflect.Constructor;
import java.lang.reflect.Field;
import java.lang.reflect.Method;
import java.lang.reflect.Modifier;
import java.util.Set;
import java.util.TreeSet;

/** The public face: the members of the document, and no other that can be seen from outside. */
public final class FaceTest {
  private static final Set<String> FACE =
      Set.of(
          "int addState() IllegalStateException",
          "int addTransition(int int int int int int) IndexOutOfBoundsException"
              + " IllegalArgumentException IllegalStateException",
          "int addAction(int int int int) IndexOutOfBoundsException"
              + " IllegalArgumentException IllegalStateException",
          "int drop() IllegalStateException",
          "int setTimerEvent(int int) IndexOutOfBoundsException",
          "int stateCount()",
          "int transitionCount()",
          "boolean isHidden(int) IndexOutOfBoundsException",
          "long restart()",
          "int happen(int) IndexOutOfBoundsException",
          "int advance(int) IllegalArgumentException",
          "int state()",
          "long time()",
          "int value(int) IndexOutOfBoundsException",
          "int left(int) IndexOutOfBoundsException",
          "int emitted()",
          "int output(int) IndexOutOfBoundsException",
          "int fired(int) IndexOutOfBoundsException",
          "int ignored()",
          "int compile()",
          "boolean isCompiled()",
          "int classOf(int) IllegalStateException IndexOutOfBoundsException",
          "int offset(int) IllegalStateException IndexOutOfBoundsException",
          "int used(int) IllegalStateException IndexOutOfBoundsException",
          "int tableSize() IllegalStateException",
          "int owner(int) IllegalStateException IndexOutOfBoundsException",
          "double density() IllegalStateException",
          "long digest()");

  public static void main(String[] args) {
    Class<?> c = ProtocolMachine.class;
    int both = Modifier.PUBLIC | Modifier.FINAL;
    Check.due("the class is public and final", c.getModifiers() & both, both);
    Check.due("the package", c.getPackageName(), "");
    Set<String> seen = new TreeSet<>();
    for (Method m : c.getDeclaredMethods()) {
      if (!Modifier.isPrivate(m.getModifiers())) {
        seen.add(signature(m));
        Check.due(m.getName() + " is public and no more", m.getModifiers(), Modifier.PUBLIC);
      }
    }
    Check.due("the methods", seen, new TreeSet<>(FACE));
    for (Method m : c.getDeclaredMethods()) {
      boolean isOfFace = FACE.stream().anyMatch(f -> f.contains(" " + m.getName() + "("));
      boolean isPrivate = Modifier.isPrivate(m.getModifiers());
      Check.due(m.getName() + ": a private name of the face", isPrivate && isOfFace, false);
    }
    for (Field f : c.getDeclaredFields()) {
      Check.due(f.getName() + " is private", Modifier.isPrivate(f.getModifiers()), true);
    }
    Constructor<?>[] constructors = c.getDeclaredConstructors();
    Check.due("the constructors", constructors.length, 1);
    Check.due("the constructor's parameters", constructors[0].getParameterCount(), 0);
    Check.due("the constructor is public", constructors[0].getModifiers(), Modifier.PUBLIC);
    Check.end();
  }

  private static String signature(Method m) {
    StringBuilder s = new StringBuilder(m.getReturnType() + " " + m.getName() + "(");
    String gap = "";
    for (Class<?> p : m.getParameterTypes()) {
      s.append(gap).append(p);
      gap = " ";
    }
    s.append(')');
    for (Class<?> e : m.getExceptionTypes()) {
      s.append(' ').append(e.getSimpleName());
    }
    return s.toString();
  }
}
