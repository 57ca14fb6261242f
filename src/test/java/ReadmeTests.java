import java.io.IOException;
import java.lang.reflect.Method;
import java.nio.file.Files;
import java.nio.file.Path;
import java.util.ArrayList;
import java.util.HashMap;
import java.util.HashSet;
import java.util.List;
import java.util.Map;
import java.util.Set;
import java.util.regex.Matcher;
import java.util.regex.Pattern;

/**
 * README.md (args[2]) shows what the class does: its examples are asked line by line, in their order, and its
 * table has the calls of the document's face (args[1]).
 */
public final class ReadmeTests {
  private static final Pattern MADE = Pattern.compile("HillErrands (\\w+) = new HillErrands\\(\\);");
  private static final Pattern ASKED =
      Pattern.compile("(?:int (\\w+) = )?(\\w+)\\.(\\w+)\\(([^;]*)\\); // (-?\\d+|true|false)(?:\\W.*)?");

  private static final Map<String, HillErrands> towns = new HashMap<>();
  private static final Map<String, Integer> numbers = new HashMap<>(Map.of("HillErrands.NONE", HillErrands.NONE));
  private static final Set<String> shown = new HashSet<>();
  private static int asked = 0;
  private static int wrong = 0;

  public static void main(String[] args) throws IOException, ReflectiveOperationException {
    String readme = Files.readString(Path.of(args[2]));
    Matcher block = Pattern.compile("(?s)```java\n(.*?)```").matcher(readme);
    while (block.find()) {
      for (String line : block.group(1).split("\n")) {
        show(line.strip());
      }
    }
    List<String> face = FaceTests.linesOf(Files.readString(Path.of(args[1])));
    face.removeIf(member -> !member.startsWith("int ") && !member.startsWith("boolean "));
    List<String> table = new ArrayList<>();
    Matcher row = Pattern.compile("(?m)^\\| `([^`]*)` \\|").matcher(readme);
    while (row.find()) {
      table.add(row.group(1));
    }
    if (!table.equals(face)) {
      report("the table has " + table + ", the document " + face);
    }
    for (Method m : HillErrands.class.getDeclaredMethods()) {
      if (java.lang.reflect.Modifier.isPublic(m.getModifiers()) && !shown.contains(m.getName())) {
        report("no example asks " + m.getName() + "()");
      }
    }
    System.out.println(asked + " calls of README.md, " + table.size() + " rows, " + wrong + " wrong");
    System.exit(wrong == 0 && asked > 0 ? 0 : 1);
  }

  private static void report(String what) {
    wrong++;
    System.out.println(what);
  }

  private static void show(String line) throws ReflectiveOperationException {
    Matcher made = MADE.matcher(line);
    Matcher call = ASKED.matcher(line);
    if (line.isEmpty()) {
      return;
    }
    if (made.matches()) {
      towns.put(made.group(1), new HillErrands());
    } else if (call.matches() && towns.containsKey(call.group(2))) {
      String answer = String.valueOf(ask(towns.get(call.group(2)), call.group(3), call.group(4)));
      asked++;
      shown.add(call.group(3));
      if (!answer.equals(call.group(5))) {
        report(line + " - it answers " + answer);
      }
      if (call.group(1) != null) {
        numbers.put(call.group(1), Integer.valueOf(answer));
      }
    } else {
      report("no call with its answer: " + line);
    }
  }

  private static Object ask(HillErrands town, String name, String told) throws ReflectiveOperationException {
    String[] parts = told.isEmpty() ? new String[0] : told.split(", ");
    for (Method m : HillErrands.class.getMethods()) {
      if (m.getName().equals(name) && m.getParameterCount() == parts.length) {
        Object[] values = new Object[parts.length];
        for (int i = 0; i < parts.length; i++) {
          boolean yesOrNo = m.getParameterTypes()[i] == boolean.class;
          values[i] = yesOrNo ? (Object) Boolean.valueOf(parts[i]) : (Object) sum(parts[i]);
        }
        return m.invoke(town, values);
      }
    }
    return "(no such call)";
  }

  /** A number, a name, or products of these with + between. */
  private static int sum(String text) {
    int sum = 0;
    for (String term : text.split(" \\+ ")) {
      int product = 1;
      for (String factor : term.split(" \\* ")) {
        product *= numbers.containsKey(factor) ? numbers.get(factor) : Integer.decode(factor);
      }
      sum += product;
    }
    return sum;
  }
}
