import java.io.IOException;
import java.nio.file.Files;
import java.nio.file.Path;
import java.util.ArrayList;
import java.util.HashMap;
import java.util.LinkedHashMap;
import java.util.LinkedHashSet;
import java.util.List;
import java.util.Map;
import java.util.Set;
import java.util.TreeSet;
import java.util.regex.Matcher;
import java.util.regex.Pattern;

/**
 * Rules 8 and 11 of LANGUAGE.md: calls that are no recursion go at most eight deep, and what calls itself, at once
 * or by others, is private and carries its depth. Who calls whom is read from the text of the class (args[0]).
 */
public final class CallDepthTests {
  private static final int MOST_DEEP = 8;
  private static final Set<String> NO_CALLS = Set.of("if", "for", "while", "switch", "return", "super", "this");

  private static final Map<String, Set<String>> calls = new LinkedHashMap<>();
  private static final Map<String, String> heads = new HashMap<>();
  private static final Map<String, Set<String>> reached = new HashMap<>();
  private static int wrong = 0;

  public static void main(String[] args) throws IOException {
    String code = Files.readString(Path.of(args[0])).replaceAll("(?s)/\\*.*?\\*/", "").replaceAll("//[^\n]*", "");
    List<String[]> methods = methodsOf(code);
    for (String[] m : methods) {
      calls.put(m[0] + "." + m[1], new LinkedHashSet<>());
      heads.put(m[0] + "." + m[1], m[2]);
    }
    for (String[] m : methods) {
      calls.get(m[0] + "." + m[1]).addAll(calledIn(m[0], m[3], code));
    }
    for (String m : calls.keySet()) {
      Set<String> all = new LinkedHashSet<>();
      reach(m, all);
      reached.put(m, all);
    }
    int deepest = 0;
    for (String m : calls.keySet()) {
      List<String> chain = deepestFrom(m);
      deepest = Math.max(deepest, chain.size());
      if (chain.size() > MOST_DEEP) {
        report("rule 11: " + chain.size() + " calls deep: " + chain);
      }
      if (reached.get(m).contains(m) && !heads.get(m).matches("private .*\\bint open\\b.*")) {
        report("rule 8: " + m + " comes to itself and is not private, or does not tell how deep it is");
      }
    }
    System.out.println(calls.size() + " methods, " + deepest + " calls deep, " + wrong + " wrong");
    System.exit(wrong == 0 && calls.size() > 31 && deepest > 1 ? 0 : 1);
  }

  private static void report(String what) {
    wrong++;
    System.out.println(what);
  }

  /** Class, name, head and body of each method; overloaded ones would be one, but there are none. */
  private static List<String[]> methodsOf(String code) {
    List<String[]> methods = new ArrayList<>();
    String type = "";
    String[] method = null;
    String indent = "";
    for (String line : code.split("\n")) {
      Matcher begun = Pattern.compile("^( +)((?:[\\w\\[\\]]+ )*(\\w+)\\(.*\\)) \\{$").matcher(line);
      Matcher inside = Pattern.compile("(?:^|.* )class (\\w+) \\{$").matcher(line);
      if (inside.matches()) {
        type = inside.group(1);
      } else if (method == null && begun.matches()) {
        indent = begun.group(1);
        method = new String[] {type, begun.group(3), begun.group(2), ""};
      } else if (method != null && line.equals(indent + "}")) {
        methods.add(method);
        method = null;
      } else if (method != null) {
        method[3] += line + "\n";
      }
    }
    return methods;
  }

  private static Set<String> calledIn(String type, String body, String code) {
    Set<String> called = new TreeSet<>();
    Matcher m = Pattern.compile("(new )?(?:(\\w+)\\.)?(\\w+)\\(").matcher(body);
    while (m.find()) {
      String name = m.group(3);
      String owner = m.group(2) == null ? type : ownerOf(m.group(2), code);
      String key = m.group(1) != null ? name + "." + name : owner + "." + name;
      if (calls.containsKey(key)) {
        called.add(key);
      } else if (m.group(2) == null && m.group(1) == null && !NO_CALLS.contains(name)) {
        report("not understood: " + name + "() in " + type);
      }
    }
    return called;
  }

  /** The class of a field or a variable: its name stands behind it once at least. */
  private static String ownerOf(String variable, String code) {
    Matcher m = Pattern.compile("\\b([A-Z]\\w+) " + variable + "\\b").matcher(code);
    return m.find() ? m.group(1) : variable;
  }

  private static void reach(String from, Set<String> all) {
    for (String next : calls.get(from)) {
      if (all.add(next)) {
        reach(next, all);
      }
    }
  }

  /** The longest chain of calls; methods that come to one another count as one. */
  private static List<String> deepestFrom(String m) {
    List<String> longest = List.of();
    Set<String> ring = new LinkedHashSet<>(List.of(m));
    for (String other : reached.get(m)) {
      if (reached.get(other).contains(m)) {
        ring.add(other);
      }
    }
    for (String one : ring) {
      for (String next : calls.get(one)) {
        List<String> rest = ring.contains(next) ? List.of() : deepestFrom(next);
        longest = rest.size() > longest.size() ? rest : longest;
      }
    }
    List<String> chain = new ArrayList<>(List.of(ring.toString()));
    chain.addAll(longest);
    return chain;
  }
}
