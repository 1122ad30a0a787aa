import java.io.IOException;
import java.lang.reflect.Method;
import java.lang.reflect.Modifier;
import java.nio.file.Files;
import java.nio.file.Path;
import java.util.regex.Matcher;
import java.util.regex.Pattern;
import javax.tools.ToolProvider;

/** README.md's example compiles, each call in it gives the answer that stands behind it, and it leaves out no call. */
public final class ReadmeExample {
  private static final Pattern EXAMPLE = Pattern.compile("```java\n(.*?)```", Pattern.DOTALL);
  private static final Pattern ANSWERED = Pattern.compile("(x\\.\\w+\\(.*\\)); +// (-?\\d+|true|false|[A-Z_]+)(:.*)?");

  private ReadmeExample() {
  }

  public static void main(String[] args) throws IOException, ReflectiveOperationException {
    Matcher example = EXAMPLE.matcher(Files.readString(Path.of("README.md")));
    boolean found = example.find();
    Check.due("README.md has an example", found, true);
    if (found) {
      tellsEveryCall(example.group(1));
      run(example.group(1));
    }
    Check.end();
  }

  private static void tellsEveryCall(String example) {
    for (Method method : OverloadPicker.class.getDeclaredMethods()) {
      if (Modifier.isPublic(method.getModifiers())) {
        Check.due("the example uses " + method.getName(), example.contains("x." + method.getName() + "("), true);
      }
    }
  }

  /** The example goes beside the classes of this test, so that it may use Check as they do. */
  private static void run(String example) throws IOException, ReflectiveOperationException {
    Path folder = Path.of(System.getProperty("java.class.path"));
    Path source = folder.resolve("Example.java");
    Files.writeString(source, program(example));
    int compiled = ToolProvider.getSystemJavaCompiler().run(null, null, null,
        "--release", "17", "-proc:none", "-cp", folder.toString(), "-d", folder.toString(), source.toString());
    Check.due("the example compiles", compiled == 0, true);
    if (compiled == 0) {
      Class.forName("Example").getDeclaredMethod("run").invoke(null);
    }
  }

  private static String program(String example) {
    StringBuilder program = new StringBuilder("final class Example {\n  static void run() {\n");
    int answered = 0;
    for (String line : example.split("\n")) {
      Matcher call = ANSWERED.matcher(line);
      if (call.matches()) {
        answered++;
        program.append("Check.due(\"").append(call.group(1)).append("\", ").append(call.group(1)).append(", ")
            .append(value(call.group(2))).append(");\n");
      } else {
        Check.due("an answer stands behind " + line, line.startsWith("x.") && !line.contains("clearProgram"), false);
        program.append(line).append("\n");
      }
    }
    Check.due("the example has answers", answered > 0, true);
    return program.append("  }\n}\n").toString();
  }

  private static String value(String answer) {
    return Character.isUpperCase(answer.charAt(0)) ? "OverloadPicker." + answer : answer;
  }
}
