import java.lang.reflect.Constructor;
import java.lang.reflect.Field;
import java.lang.reflect.Member;
import java.lang.reflect.Method;
import java.lang.reflect.Modifier;
import java.util.Set;
import java.util.TreeSet;

/** The class shows the face of the document and nothing else, and keeps no static state. */
public final class FaceTest {
  private static final Set<String> FACE = Set.of(
      "type 2", "put 4", "remove 2", "move 3", "copy 3", "style 4", "toggle 3", "replace 2", "length 0", "letter 1",
      "styleAt 1", "runs 0", "runBegin 1", "runStyle 1", "runOf 1", "having 1", "setFlag 1", "flag 0", "digest 0");
  private static int wrong = 0;

  private static void due(String what, Object got, Object want) {
    if (!got.equals(want)) {
      wrong++;
      System.out.println(what + ": " + got + ", due is " + want);
    }
  }

  private static boolean isPublic(Member member) {
    due(member + " is public or private", (member.getModifiers() & (Modifier.PUBLIC | Modifier.PRIVATE)) != 0, true);
    return Modifier.isPublic(member.getModifiers());
  }

  private static void methods() {
    Set<String> shown = new TreeSet<>();
    Set<String> publicNames = new TreeSet<>();
    Set<String> privateNames = new TreeSet<>();
    for (Method method : StyledText.class.getDeclaredMethods()) {
      if (!isPublic(method)) {
        privateNames.add(method.getName());
        continue;
      }
      publicNames.add(method.getName());
      shown.add(method.getName() + " " + method.getParameterCount());
      due(method + " is static", Modifier.isStatic(method.getModifiers()), false);
      due(method + " answers", method.getReturnType(), int.class);
      due(method + " declares exceptions", method.getExceptionTypes().length, 0);
      for (Class<?> type : method.getParameterTypes()) due(method + " takes", type, int.class);
    }
    due("the public methods", shown, new TreeSet<>(FACE));
    privateNames.retainAll(publicNames);
    due("the names both public and private", privateNames, Set.of());
  }

  private static void fields() {
    Set<String> constants = new TreeSet<>();
    for (Field field : StyledText.class.getDeclaredFields()) {
      if (isPublic(field)) {
        constants.add(field.getName());
        due(field + " has the type", field.getType(), int.class);
      }
      boolean fixed = Modifier.isFinal(field.getModifiers());
      if (Modifier.isStatic(field.getModifiers())) {
        due(field + " is a constant", fixed, true);
        due(field + " is a number", field.getType() == int.class || field.getType() == long.class, true);
      } else {
        due(field + " is private", Modifier.isPrivate(field.getModifiers()), true);
        due(field + " keeps its array", fixed || !field.getType().isArray(), true);
      }
    }
    due("the public constants", constants, new TreeSet<>(Set.of("BAD_ARG", "FULL", "NONE")));
  }

  /** A case label must be a constant that the compiler knows, so this would not compile with another kind of field. */
  private static String nameOf(int code) {
    switch (code) {
      case StyledText.BAD_ARG: return "BAD_ARG";
      case StyledText.FULL: return "FULL";
      case StyledText.NONE: return "NONE";
      default: return "none of them";
    }
  }

  private static void codes() {
    due("-1", nameOf(-1), "BAD_ARG");
    due("-2", nameOf(-2), "FULL");
    due("-3", nameOf(-3), "none of them");
    due("-4", nameOf(-4), "NONE");
  }

  private static void classItself() {
    due("the class is public and final", StyledText.class.getModifiers(), Modifier.PUBLIC | Modifier.FINAL);
    due("nested classes", StyledText.class.getDeclaredClasses().length, 0);
    due("superclass", StyledText.class.getSuperclass(), Object.class);
    due("interfaces", StyledText.class.getInterfaces().length, 0);
    due("the package", StyledText.class.getPackageName(), "");
    Constructor<?>[] constructors = StyledText.class.getDeclaredConstructors();
    due("constructors", constructors.length, 1);
    due("the constructor is public", isPublic(constructors[0]), true);
    due("the constructor's parameters", constructors[0].getParameterCount(), 0);
    due("the constructor's exceptions", constructors[0].getExceptionTypes().length, 0);
  }

  public static void main(String[] args) {
    classItself();
    methods();
    fields();
    codes();
    System.out.println(wrong == 0 ? "the face is as due" : wrong + " things are not as due");
    if (wrong != 0) System.exit(1);
  }
}
