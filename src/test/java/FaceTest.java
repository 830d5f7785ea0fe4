import java.io.IOException;
import java.lang.reflect.Constructor;
import java.lang.reflect.Field;
import java.lang.reflect.Method;
import java.lang.reflect.Modifier;
import java.nio.file.Files;
import java.nio.file.Path;
import java.util.Arrays;
import java.util.List;
import java.util.TreeSet;

/** The class has the document's whole face, and nothing else can be seen of it. */
final class FaceTest {
  private static final Path SOURCE = Path.of("src/main/java/RouteSpeaker.java");
  private static final int LONGEST_METHOD = 60;
  private static final String[] NOT_ALLOWED = {"->", "::", "synchronized", "finally", "assert ", "static {", "native",
      "java.io", "java.time", "Random", "Thread", "nanoTime", "currentTimeMillis", "hashCode", "getMessage", "Exact("};

  public static void main(String[] args) throws IOException {
    Class<?> type = RouteSpeaker.class;
    Checks.same("public and final", Modifier.toString(type.getModifiers()), "public final");
    Checks.same("NONE", RouteSpeaker.NONE, -1);
    methods(type);
    fields(type);
    for (Constructor<?> constructor : type.getDeclaredConstructors()) {
      Checks.same("constructor", constructor.toString(), "public RouteSpeaker()");
    }
    for (Class<?> inside : type.getDeclaredClasses()) {
      Checks.same(inside + " is static", Modifier.isStatic(inside.getModifiers()), true);
      Checks.same(inside + " is public", Modifier.isPublic(inside.getModifiers()), false);
    }
    Checks.same("at most twelve classes", type.getDeclaredClasses().length < 12, true);
    source();
    Checks.finish();
  }

  private static void methods(Class<?> type) {
    String argument = " throws java.lang.IllegalArgumentException";
    String state = ",java.lang.IllegalStateException";
    String element = ",java.util.NoSuchElementException";
    TreeSet<String> due = new TreeSet<>(Arrays.asList(
        "void peer(int,int,int)" + argument + state,
        "void rule(int,int,int,int)" + argument + state,
        "void unrule(int)" + argument,
        "void outbound(int,int,int,int)" + argument,
        "boolean originate(int,int)" + argument + state,
        "boolean retract(int,int)" + argument,
        "boolean start(int)" + argument,
        "boolean stop(int)" + argument,
        "boolean feed(int,long,int)" + argument,
        "int take(int)" + argument + element,
        "int tick()",
        "int session(int,int)",
        "int best(int,int,int)" + argument + element,
        "int flaw(int,int,int)" + argument + element,
        "double penalty(int,int,int)" + argument,
        "int forward(int)" + argument + element,
        "int known()"));
    TreeSet<String> names = new TreeSet<>();
    TreeSet<String> got = new TreeSet<>();
    for (Method method : type.getDeclaredMethods()) {
      if (Modifier.isPublic(method.getModifiers())) {
        got.add(method.toString().replace("public ", "").replace("RouteSpeaker.", ""));
        names.add(method.getName());
      }
    }
    Checks.same("public methods", got, due);
    for (Method method : type.getDeclaredMethods()) {
      int modifiers = method.getModifiers();
      Checks.same(method + " can be seen", Modifier.isPublic(modifiers) || Modifier.isPrivate(modifiers), true);
      formOf(method, names);
    }
    for (Class<?> inside : type.getDeclaredClasses()) {
      for (Method method : inside.getDeclaredMethods()) {
        formOf(method, names);
      }
    }
  }

  private static void formOf(Method method, TreeSet<String> publicNames) {
    boolean isPrivate = Modifier.isPrivate(method.getModifiers());
    Checks.same(method + " has a name of its own", isPrivate && publicNames.contains(method.getName()), false);
    Checks.same(method + " takes at most seven", method.getParameterCount() <= 7, true);
  }

  private static void fields(Class<?> type) {
    for (Field field : type.getDeclaredFields()) {
      boolean shown = field.getName().equals("NONE");
      int modifiers = field.getModifiers();
      Checks.same(field + " is private", Modifier.isPrivate(modifiers), !shown);
      Checks.same(field + " is final", Modifier.isFinal(modifiers), true);
    }
    for (Class<?> inside : type.getDeclaredClasses()) {
      int own = 0;
      for (Field field : inside.getDeclaredFields()) {
        boolean isStatic = Modifier.isStatic(field.getModifiers());
        own += isStatic ? 0 : 1;
        Checks.same(field + " is no static state", isStatic && field.getType() != int.class, false);
      }
      Checks.same(inside + " has some twenty fields", own <= 20, true);
    }
  }

  /** What the language of the program leaves out, as far as it can be seen by words and lines. */
  private static void source() throws IOException {
    List<String> lines = Files.readAllLines(SOURCE);
    String all = String.join("\n", lines);
    for (String word : NOT_ALLOWED) {
      Checks.same("'" + word + "' stands in the program", all.contains(word), false);
    }
    Checks.same("all that is imported", lines.stream().filter(line -> line.startsWith("import")).toList(),
        List.of("import java.util.NoSuchElementException;"));
    int methods = 0;
    for (int i = 0; i < lines.size(); i++) {
      if (lines.get(i).matches("( {2}| {4})[a-zA-Z][^=;]*[(][^=;]*")) {
        String end = lines.get(i).startsWith("    ") ? "    }" : "  }";
        int last = lines.subList(i, lines.size()).indexOf(end);
        methods++;
        Checks.same("short: " + lines.get(i).strip(), last < LONGEST_METHOD, true);
      }
    }
    Checks.same("methods were found", methods > 50, true);
  }
}
