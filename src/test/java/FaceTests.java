import java.io.IOException;
import java.lang.reflect.Constructor;
import java.lang.reflect.Field;
import java.lang.reflect.Method;
import java.lang.reflect.Modifier;
import java.nio.file.Files;
import java.nio.file.Path;
import java.util.ArrayList;
import java.util.Arrays;
import java.util.List;
import java.util.regex.Matcher;
import java.util.regex.Pattern;
import java.util.stream.Collectors;

/** The class has the face that the document tells (args[1]), line by line, and no other member that is not private. */
public final class FaceTests {
  private static final Pattern METHOD = Pattern.compile("(int|boolean) (\\w+)\\((.*)\\)");

  private static int wrong = 0;

  public static void main(String[] args) throws IOException {
    List<String> face = linesOf(Files.readString(Path.of(args[1])));
    int type = HillErrands.class.getModifiers();
    expect(Modifier.isPublic(type) && Modifier.isFinal(type), "the class is public and final");
    expect(HillErrands.NONE == -1, "NONE is -1");
    List<String> due = new ArrayList<>();
    for (String line : face) {
      due.add(withoutNames(line));
    }
    List<String> is = membersOf(HillErrands.class);
    for (String member : due) {
      expect(is.contains(member), "the class has " + member);
    }
    for (String member : is) {
      expect(due.contains(member), "the document has " + member);
    }
    for (Class<?> inside : HillErrands.class.getDeclaredClasses()) {
      int how = inside.getModifiers();
      expect(Modifier.isStatic(how), inside.getName() + " is static");
      expect(!Modifier.isPublic(how) && !Modifier.isProtected(how), inside.getName() + " is private or package-visible");
    }
    System.out.println(due.size() + " members of the face, " + wrong + " wrong");
    System.exit(wrong == 0 && due.size() == 33 ? 0 : 1);
  }

  /** The members that the document's face has, without "public" and the ; at the end. */
  static List<String> linesOf(String document) {
    int from = document.indexOf("```java", document.indexOf("## The public face"));
    String block = document.substring(from, document.indexOf("```", from + 3));
    List<String> lines = new ArrayList<>();
    for (String line : block.split("\n")) {
      String member = line.strip();
      if (member.startsWith("public ") && member.endsWith(";")) {
        lines.add(member.substring("public ".length(), member.length() - 1));
      }
    }
    return lines;
  }

  private static void expect(boolean so, String what) {
    if (!so) {
      wrong++;
      System.out.println("not so: " + what);
    }
  }

  /** A member as the document writes it, its parameters by their types alone. */
  private static String withoutNames(String member) {
    Matcher m = METHOD.matcher(member);
    if (!m.matches()) {
      return member;
    }
    String types = Arrays.stream(m.group(3).split(", ")).map(p -> p.split(" ")[0]).collect(Collectors.joining(", "));
    return m.group(1) + " " + m.group(2) + "(" + types + ")";
  }

  private static List<String> membersOf(Class<?> type) {
    List<String> members = new ArrayList<>();
    for (Field f : type.getDeclaredFields()) {
      if (!Modifier.isPrivate(f.getModifiers())) {
        members.add(Modifier.toString(f.getModifiers()).replace("public ", "") + " " + f.getType() + " " + f.getName() + " = -1");
      }
    }
    for (Constructor<?> c : type.getDeclaredConstructors()) {
      if (!Modifier.isPrivate(c.getModifiers())) {
        members.add(type.getSimpleName() + "(" + types(c.getParameterTypes()) + ")");
      }
    }
    for (Method m : type.getDeclaredMethods()) {
      if (!Modifier.isPrivate(m.getModifiers())) {
        String how = Modifier.isPublic(m.getModifiers()) ? "" : "not public: ";
        members.add(how + m.getReturnType() + " " + m.getName() + "(" + types(m.getParameterTypes()) + ")");
      }
    }
    return members;
  }

  private static String types(Class<?>[] types) {
    return Arrays.stream(types).map(Class::getName).collect(Collectors.joining(", "));
  }
}
