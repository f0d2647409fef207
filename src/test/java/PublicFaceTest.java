import java.lang.reflect.Constructor;
import java.lang.reflect.Field;
import java.lang.reflect.Method;
import java.lang.reflect.Modifier;
import java.util.Set;
import java.util.TreeSet;

/** The public face of the document, and what of LANGUAGE.md the compiled class can show. */
public final class PublicFaceTest {
  private static final Set<String> FACE =
      Set.of("int feed(int)", "int unfeed()", "int value()", "int depth()");

  public static void main(String[] args) {
    classItself();
    constructors();
    methods();
    fields();
    Check.end();
  }

  private static void classItself() {
    Class<?> c = CrcRewind.class;
    Check.due("modifiers of the class", Modifier.PUBLIC | Modifier.FINAL, c.getModifiers());
    Check.holds("the class extends Object alone", c.getSuperclass() == Object.class);
    Check.due("interfaces", 0, c.getInterfaces().length);
    Check.due("nested classes", 0, c.getDeclaredClasses().length);
    Check.holds("there is no package", c.getPackageName().isEmpty());
  }

  private static void constructors() {
    Constructor<?>[] all = CrcRewind.class.getDeclaredConstructors();
    Check.due("constructors", 1, all.length);
    Check.due("modifiers of the constructor", Modifier.PUBLIC, all[0].getModifiers());
    Check.due("parameters of the constructor", 0, all[0].getParameterCount());
  }

  private static void methods() {
    Set<String> seen = new TreeSet<>();
    for (Method m : CrcRewind.class.getDeclaredMethods()) {
      if (Modifier.isPrivate(m.getModifiers())) {
        Check.holds(m.getName() + " bears no public name", !isPublicName(m.getName()));
      } else {
        Check.due("modifiers of " + m.getName(), Modifier.PUBLIC, m.getModifiers());
        Check.due("exceptions of " + m.getName(), 0, m.getExceptionTypes().length);
        seen.add(signature(m));
      }
    }
    Check.holds("the public methods are " + FACE + ", seen " + seen, seen.equals(FACE));
  }

  private static boolean isPublicName(String name) {
    return FACE.stream().anyMatch(s -> s.startsWith("int " + name + "("));
  }

  private static String signature(Method m) {
    StringBuilder parameters = new StringBuilder();
    for (Class<?> type : m.getParameterTypes()) {
      parameters.append(parameters.length() == 0 ? "" : ", ").append(type.getName());
    }
    return m.getReturnType().getName() + " " + m.getName() + "(" + parameters + ")";
  }

  /** "None of them are public fields.", of the constants; nor is any other field. */
  private static void fields() {
    for (Field f : CrcRewind.class.getDeclaredFields()) {
      int modifiers = f.getModifiers();
      Check.holds(f.getName() + " is private", Modifier.isPrivate(modifiers));
      Check.holds(f.getName() + " is of an allowed type", isAllowed(f.getType()));
      if (Modifier.isStatic(modifiers)) {
        boolean whole = f.getType() == int.class || f.getType() == long.class;
        Check.holds(f.getName() + " is a constant", whole && Modifier.isFinal(modifiers));
      }
    }
  }

  private static boolean isAllowed(Class<?> type) {
    Class<?> plain = type.isArray() ? type.getComponentType() : type;
    return plain.isPrimitive() && plain != float.class && plain != double.class;
  }
}
