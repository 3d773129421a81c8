import java.io.IOException;
import java.lang.reflect.Constructor;
import java.lang.reflect.Field;
import java.lang.reflect.Method;
import java.lang.reflect.Modifier;
import java.nio.file.Files;
import java.nio.file.Path;
import java.util.ArrayList;
import java.util.List;
import java.util.Set;
import java.util.TreeSet;
import java.util.regex.Matcher;
import java.util.regex.Pattern;

/** The public face, and those rules of LANGUAGE.md that can be read off the class and its source. */
public final class FaceTest {
  private static final Check CHECK = new Check("FaceTest");
  private static final Set<String> FACE = Set.of(
      "place 0", "road 3", "heap 0", "set 3", "gate 2", "undo 0", "apart 2", "next 2", "amount 2", "sum 1",
      "least 2", "plan 4", "alone 2", "height 3", "load 4", "far 2", "shown 3", "some 3", "gated 2",
      "draft 3", "clear 0", "copy 2", "judge 2", "beside 0", "count 1");

  public static void main(String[] args) throws IOException {
    constants();
    members();
    nestedClasses();
    source(withoutComments(Files.readString(Path.of("src/main/java/HeapMover.java"))));
    CHECK.end();
  }

  private static void holds(String what, boolean is) {
    CHECK.due(what, is ? 1 : 0, 1);
  }

  private static void constants() {
    CHECK.due("NONE", HeapMover.NONE, -1);
    CHECK.due("UNKNOWN", HeapMover.UNKNOWN, -2);
    CHECK.due("OUTSIDE", HeapMover.OUTSIDE, -3);
    CHECK.due("NOT", HeapMover.NOT, -4);
    CHECK.due("FULL", HeapMover.FULL, -5);
  }

  private static void members() {
    Class<?> face = HeapMover.class;
    holds("public final", face.getModifiers() == (Modifier.PUBLIC | Modifier.FINAL));
    holds("no package", face.getPackageName().isEmpty());
    Constructor<?>[] constructors = face.getDeclaredConstructors();
    holds("one constructor", constructors.length == 1 && constructors[0].getParameterCount() == 0);
    Set<String> found = new TreeSet<>();
    for (Method method : face.getDeclaredMethods()) {
      if (Modifier.isPublic(method.getModifiers())) {
        found.add(method.getName() + " " + method.getParameterCount());
        holds(method + " answers an int", method.getReturnType() == int.class);
      } else {
        holds(method + " is private", Modifier.isPrivate(method.getModifiers()));
      }
    }
    holds("the face is " + found, found.equals(new TreeSet<>(FACE)));
    int constants = 0;
    for (Field field : face.getDeclaredFields()) {
      constants += Modifier.isPublic(field.getModifiers()) ? 1 : 0;
      holds(field + " is public or private", (field.getModifiers() & (Modifier.PUBLIC | Modifier.PRIVATE)) != 0);
    }
    CHECK.due("public fields", constants, 5);
  }

  private static void nestedClasses() {
    List<Class<?>> all = new ArrayList<>(List.of(HeapMover.class.getDeclaredClasses()));
    for (Class<?> nested : all) {
      holds(nested + " is static", Modifier.isStatic(nested.getModifiers()));
      holds(nested + " is not public", !Modifier.isPublic(nested.getModifiers()));
    }
    all.add(HeapMover.class);
    holds("at most twelve classes", all.size() <= 12);
    for (Class<?> each : all) {
      int fields = 0;
      for (Field field : each.getDeclaredFields()) {
        fields += Modifier.isStatic(field.getModifiers()) ? 0 : 1;
        holds(field + " is final, if static",
            !Modifier.isStatic(field.getModifiers()) || Modifier.isFinal(field.getModifiers()));
      }
      holds(each + " has some twenty fields at most", fields <= 20);
      for (Method method : each.getDeclaredMethods()) {
        holds(method + " takes at most seven", method.getParameterCount() <= 7);
        holds(method + " does not bear a public name", Modifier.isPublic(method.getModifiers())
            || FACE.stream().noneMatch(name -> name.startsWith(method.getName() + " ")));
      }
    }
  }

  private static String withoutComments(String source) {
    return source.replaceAll("(?s)/\\*.*?\\*/", "").replaceAll("//[^\n]*", "");
  }

  private static void source(String source) {
    for (String word : new String[] {"throw", "throws", "try", "catch", "finally", "synchronized", "assert",
        "package", "double", "float", "while"}) {
      holds("no " + word, !Pattern.compile("\\b" + word + "\\b").matcher(source).find());
    }
    holds("no lambda", !source.contains("->"));
    holds("no method reference", !source.contains("::"));
    Matcher imports = Pattern.compile("import ([^;]+);").matcher(source);
    while (imports.find()) {
      holds("import " + imports.group(1), imports.group(1).equals("java.util.Arrays"));
    }
    Matcher library = Pattern.compile("\\b(Arrays|Math|System|Integer|Long|String|List)\\.\\w+").matcher(source);
    while (library.find()) {
      holds("library: " + library.group(),
          Set.of("Arrays.fill", "Math.min", "System.arraycopy").contains(library.group()));
    }
    // All calls of a run share one room: rows are made with the object, and never in a call.
    Pattern atFirst = Pattern.compile("\\s*((private )?final [\\w\\[\\]]+ \\w+|\\w+) = new \\w+(\\(\\)|(\\[\\w+\\])+);");
    for (String line : source.split("\n")) {
      if (Pattern.compile("\\bnew\\b").matcher(line).find()) {
        holds("made with the object: " + line.trim(), atFirst.matcher(line).matches());
      }
    }
  }
}
