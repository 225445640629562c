import java.io.DataInputStream;
import java.io.IOException;
import java.io.InputStream;
import java.lang.management.ManagementFactory;
import java.lang.reflect.Constructor;
import java.lang.reflect.Field;
import java.lang.reflect.Method;
import java.lang.reflect.Modifier;
import java.nio.file.Files;
import java.nio.file.Path;
import java.util.ArrayList;
import java.util.Arrays;
import java.util.List;
import java.util.Map;
import java.util.Set;
import java.util.TreeMap;
import java.util.TreeSet;
import java.util.regex.Matcher;
import java.util.regex.Pattern;
import java.util.stream.Collectors;

/** What can be seen of the rules of LANGUAGE.md; its argument is the path of the class's source. */
public final class LanguageTest {
  /** The methods of the document's public face: what they answer, their name, how many ints. */
  private static final Set<String> METHODS = Set.of("int feed 5", "boolean end 1", "int round 0",
      "int fault 1", "int of 1", "int archer 1", "boolean leave 1", "int told 2", "int arrow 3",
      "int shoot 1", "int value 2", "int take 1", "int off 4", "int ahead 2", "int rank 1",
      "boolean today 1", "int score 3", "boolean strike 2", "int law 3", "int kind 3", "int bay 1",
      "int layout 0", "int on 1", "int lane 2", "int state 1", "int undo 0");
  private static final Set<String> FACE =
      METHODS.stream().map(method -> method.split(" ")[1]).collect(Collectors.toSet());
  private static final Set<String> LIBRARY = Set.of("java/lang/Object.<init>",
      "java/lang/String.length", "java/lang/String.charAt", "java/util/Arrays.copyOf",
      "java/util/Arrays.fill", "java/lang/Integer.compare", "java/lang/Math.max");

  private LanguageTest() {
  }

  public static void main(String[] args) throws Exception {
    String source = Files.readString(Path.of(args[0]));
    face();
    List<Class<?>> classes = new ArrayList<>(List.of(ArcheryField.class));
    classes.addAll(List.of(ArcheryField.class.getDeclaredClasses()));
    Check.due("classes, at most 12", classes.size() <= 12, true);
    for (Class<?> one : classes) {
      members(one);
      library(one);
    }
    words(source);
    lengths(source);
    depths(source);
    room();
    Check.close("LanguageTest");
  }

  private static void face() {
    int face = ArcheryField.class.getModifiers();
    Check.due("the class is public and final", Modifier.isPublic(face) && Modifier.isFinal(face),
        true);
    Set<String> open = new TreeSet<>();
    for (Method method : ArcheryField.class.getDeclaredMethods()) {
      if (!Modifier.isPrivate(method.getModifiers())) {
        open.add(told(method));
      } else if (FACE.contains(method.getName())) {
        Check.fail("private method with a public one's name: " + method);
      }
    }
    Check.due("the methods are those of the document: " + open, open.equals(METHODS), true);
    for (Field field : ArcheryField.class.getDeclaredFields()) {
      boolean isOpen = !Modifier.isPrivate(field.getModifiers());
      Check.due("open field " + field.getName(), isOpen, field.getName().equals("NONE"));
    }
    Check.due("NONE", ArcheryField.NONE, -1);
    Constructor<?>[] made = ArcheryField.class.getDeclaredConstructors();
    Check.due("one constructor", made.length, 1);
    Check.due("it is public", Modifier.isPublic(made[0].getModifiers()), true);
    Check.due("it takes nothing", made[0].getParameterCount(), 0);
    Check.due("it stands by itself", ArcheryField.class.getSuperclass() == Object.class
        && ArcheryField.class.getInterfaces().length == 0, true);
  }

  private static String told(Method method) {
    int seen = method.getModifiers() & (Modifier.PUBLIC | Modifier.PROTECTED | Modifier.STATIC);
    boolean isPlain = seen == Modifier.PUBLIC
        && Arrays.stream(method.getParameterTypes()).allMatch(type -> type == int.class);
    return isPlain
        ? method.getReturnType() + " " + method.getName() + " " + method.getParameterCount()
        : method.toString();
  }

  private static void members(Class<?> one) {
    int kind = one.getModifiers();
    boolean isInside = one != ArcheryField.class;
    Check.due(one + " is static", Modifier.isStatic(kind), isInside);
    Check.due(one + " is not open", isInside && (Modifier.isPublic(kind)
        || Modifier.isProtected(kind)), false);
    int fields = 0;
    for (Field field : one.getDeclaredFields()) {
      if (Modifier.isStatic(field.getModifiers())) {
        Check.due(field + " is final", Modifier.isFinal(field.getModifiers()), true);
        Check.due(field + " is a number", field.getType() == int.class, true);
      } else {
        fields++;
      }
    }
    Check.due(one + " has at most 20 fields", fields <= 20, true);
    for (Method method : one.getDeclaredMethods()) {
      Check.due(method + " takes at most 7", method.getParameterCount() <= 7, true);
      if (isInside && FACE.contains(method.getName())) {
        Check.fail("method with a public one's name: " + method);
      }
    }
  }

  /** Every method outside the class that its compiled form names. */
  private static void library(Class<?> one) throws IOException {
    try (InputStream in = one.getResourceAsStream("/" + one.getName() + ".class");
        DataInputStream data = new DataInputStream(in)) {
      data.readInt();
      data.readInt();
      int size = data.readUnsignedShort();
      int[] tags = new int[size];
      int[][] pairs = new int[size][2];
      String[] texts = new String[size];
      for (int i = 1; i < size; i++) {
        tags[i] = data.readUnsignedByte();
        switch (tags[i]) {
          case 1 -> texts[i] = data.readUTF();
          case 3, 4 -> data.readInt();
          case 5, 6 -> {
            data.readLong();
            i++;
          }
          case 7, 8, 16, 19, 20 -> pairs[i][0] = data.readUnsignedShort();
          case 15 -> data.skipBytes(3);
          default -> {
            pairs[i][0] = data.readUnsignedShort();
            pairs[i][1] = data.readUnsignedShort();
          }
        }
      }
      for (int i = 1; i < size; i++) {
        Check.due(one + " calls nothing made at run time", tags[i] == 18, false);
        if (tags[i] == 9 || tags[i] == 10 || tags[i] == 11) {
          String owner = texts[pairs[pairs[i][0]][0]];
          String member = owner + "." + texts[pairs[pairs[i][1]][0]];
          boolean isOwn = owner.startsWith("ArcheryField");
          boolean isClone = owner.startsWith("[") && member.endsWith(".clone");
          Check.due(one + " may use " + member, isOwn || isClone || LIBRARY.contains(member), true);
        }
      }
    }
  }

  private static String bare(String source) {
    return source.replaceAll("(?s)/\\*.*?\\*/", "").replaceAll("//[^\n]*", "")
        .replaceAll("\"[^\"\n]*\"", "\"\"").replaceAll("'[^'\n]*'", "' '");
  }

  private static void words(String source) {
    String code = bare(source);
    String banned = "\\b(throw|throws|try|catch|finally|synchronized|assert|volatile|native|record"
        + "|package|Thread|Random|System|instanceof|float|double|var)\\b|->|::|@";
    Matcher found = Pattern.compile(banned).matcher(code);
    while (found.find()) {
      Check.fail("the source has " + found.group());
    }
    Matcher imports = Pattern.compile("import ([^;]*);").matcher(code);
    while (imports.find()) {
      Check.due("import " + imports.group(1), imports.group(1).equals("java.util.Arrays"), true);
    }
    for (int i = 0; i < source.length(); i++) {
      if (source.charAt(i) > 126) {
        Check.fail("a sign beyond 126 at " + i);
      }
    }
  }

  /** Methods stay under sixty lines: each begins at an indent with "(..) {" and ends at its "}". */
  private static void lengths(String source) {
    String[] lines = source.split("\n");
    for (int from = 0; from < lines.length; from++) {
      Matcher head = Pattern.compile("( {2,4})[a-zA-Z].*\\) \\{").matcher(lines[from]);
      if (head.matches()) {
        int to = from;
        while (!lines[to].equals(head.group(1) + "}")) {
          to++;
        }
        Check.due(lines[from].trim() + " is short", to - from < 60, true);
      }
    }
  }

  /**
   * No method comes back to itself, and calls go at most eight deep, the library's too. Methods of
   * one name are taken as one, so what is counted here is never less than what a run does.
   */
  private static void depths(String source) {
    String[] lines = bare(source).split("\n");
    Map<String, Set<String>> called = new TreeMap<>();
    for (int from = 0; from < lines.length; from++) {
      Matcher head = Pattern.compile("( {2,4})[a-zA-Z][^=]*?(\\w+)\\([^()]*\\) \\{")
          .matcher(lines[from]);
      if (head.matches()) {
        Set<String> names = called.computeIfAbsent(head.group(2), name -> new TreeSet<>());
        for (int at = from + 1; !lines[at].equals(head.group(1) + "}"); at++) {
          Matcher call = Pattern.compile("\\b(Arrays\\.|Integer\\.|Math\\.)?(\\w+)\\(")
              .matcher(lines[at]);
          while (call.find()) {
            names.add(call.group(1) == null ? call.group(2) : "the library");
          }
        }
      }
    }
    Check.due("the methods of the face are all seen", called.keySet().containsAll(FACE), true);
    for (String name : FACE) {
      int depth = depth(name, called, List.of());
      Check.due(name + " calls at most eight deep, not " + depth, depth <= 8, true);
    }
  }

  private static int depth(String name, Map<String, Set<String>> called, List<String> above) {
    if (above.contains(name)) {
      Check.fail(name + " comes back to itself behind " + above);
      return 0;
    }
    List<String> open = new ArrayList<>(above);
    open.add(name);
    int deepest = 0;
    for (String next : called.getOrDefault(name, Set.of())) {
      if (!Set.of("if", "for", "while", "switch", "this").contains(next)) {
        deepest = Math.max(deepest, depth(next, called, open));
      }
    }
    return deepest + 1;
  }

  /** How much the dearest runs make, in bytes: an element or a field takes four at most here. */
  private static void room() {
    com.sun.management.ThreadMXBean bean =
        (com.sun.management.ThreadMXBean) ManagementFactory.getThreadMXBean();
    long before = bean.getCurrentThreadAllocatedBytes();
    ArcheryField rounds = new ArcheryField();
    for (int a = 0; a < 16; a++) {
      rounds.archer(0);
    }
    for (int i = 0; i < 248; i++) {
      rounds.feed(0x66616365, 0x313a313b, 0x6c656720, 0x31203120, 0x303b2020);
      rounds.round();
    }
    ArcheryField layouts = new ArcheryField();
    layouts.bay(4);
    layouts.bay(4);
    for (int i = 0; i < 500; i++) {
      layouts.layout();
    }
    long made = bean.getCurrentThreadAllocatedBytes() - before;
    System.out.println("two dear runs made " + made + " bytes");
    Check.due("a run stays far from the room's end", made < 2500000, true);
  }
}
