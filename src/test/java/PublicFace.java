import java.lang.reflect.Constructor;
import java.lang.reflect.Field;
import java.lang.reflect.Method;
import java.lang.reflect.Modifier;
import java.util.Arrays;
import java.util.Map;
import java.util.Set;
import java.util.TreeMap;
import java.util.TreeSet;

/** The class shows what the document's face lists, and nothing else; its fields keep to LANGUAGE.md. */
public final class PublicFace {
  private static final Map<String, Integer> CONSTANTS = new TreeMap<>();

  static {
    String[] types = {
      "BYTE", "SHORT", "CHAR", "INT", "LONG", "BOOLEAN", "BYTE_OBJ", "SHORT_OBJ", "CHARACTER", "INTEGER", "LONG_OBJ",
      "BOOLEAN_OBJ", "NUMBER", "OBJECT"
    };
    for (int i = 0; i < types.length; i++) {
      CONSTANTS.put("T_" + types[i], i + 1);
    }
    CONSTANTS.putAll(Map.of("PHASE_NONE", 0, "PHASE_STRICT", 1, "PHASE_LOOSE", 2, "PHASE_VARARGS", 3));
    CONSTANTS.putAll(Map.of("OK", 1, "UNRESOLVED", 0, "NO_MATCH", -1, "AMBIGUOUS", -2, "ARG_ERROR", -3, "REFUSED", -4));
    CONSTANTS.putAll(Map.of("VARARGS_FLAG", 16, "NAMES", 8, "MAX_ARGS", 4));
  }

  private static final Set<String> METHODS = new TreeSet<>(Arrays.asList(
      "int addMethod[int, int, int, int]", "int methodCount[]", "boolean convertible[int, int, int]",
      "int pick[int, int]", "int lastPhase[]", "int addLiteral[int, int]", "int addCall[int, int]",
      "int pending[]", "int nodeCount[]", "void clearProgram[]", "int resolve[]", "int nodeStatus[int]",
      "int nodeMethod[int]", "int nodeType[int]", "int nodePhase[int]", "long nodeValue[int]"));

  public static void main(String[] args) throws IllegalAccessException {
    Class<OverloadPicker> face = OverloadPicker.class;
    Check.due("public and final", face.getModifiers() == (Modifier.PUBLIC | Modifier.FINAL), true);
    Check.due("nested classes", face.getDeclaredClasses().length, 0);
    Constructor<?>[] constructors = face.getDeclaredConstructors();
    Check.due("constructors", constructors.length, 1);
    Check.due("the constructor", constructors[0].toString().equals("public OverloadPicker(int,int)"), true);
    checkMethods(face.getDeclaredMethods());
    checkFields(face.getDeclaredFields());
    Check.end();
  }

  private static void checkMethods(Method[] methods) {
    Set<String> shown = new TreeSet<>();
    Set<String> names = new TreeSet<>();
    for (Method method : methods) {
      Check.due("parameters of " + method.getName() + " within seven", method.getParameterCount() <= 7, true);
      Check.due("the name " + method.getName() + " is free", names.add(method.getName()), true);
      if (!Modifier.isPrivate(method.getModifiers())) {
        Check.due(method.getName() + " is plainly public", method.getModifiers() == Modifier.PUBLIC, true);
        shown.add(method.getReturnType() + " " + method.getName() + Arrays.asList(method.getParameterTypes()));
      }
    }
    Check.due("the public methods are the document's", shown.equals(METHODS), true);
  }

  private static void checkFields(Field[] fields) throws IllegalAccessException {
    Map<String, Integer> shown = new TreeMap<>();
    int own = 0;
    for (Field field : fields) {
      int modifiers = field.getModifiers();
      boolean constant = Modifier.isStatic(modifiers);
      Class<?> type = field.getType();
      Class<?> plain = type.isArray() ? type.getComponentType() : type;
      Check.due(field.getName() + " is of numbers", plain.isPrimitive() && plain != float.class && plain != double.class, true);
      own += constant ? 0 : 1;
      if (constant) {
        Check.due(field.getName() + " is an int or long constant", Modifier.isFinal(modifiers) && (type == int.class || type == long.class), true);
      }
      if (!Modifier.isPrivate(modifiers)) {
        Check.due(field.getName() + " is a public constant", constant && Modifier.isPublic(modifiers) && type == int.class, true);
        shown.put(field.getName(), field.getInt(null));
      }
    }
    Check.due("at most forty fields", own <= 40, true);
    Check.due("the public constants are the document's", shown.equals(CONSTANTS), true);
  }
}
