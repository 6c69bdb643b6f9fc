import java.io.IOException;
import java.lang.management.ManagementFactory;
import java.lang.reflect.Constructor;
import java.lang.reflect.Field;
import java.lang.reflect.Method;
import java.lang.reflect.Modifier;
import java.nio.file.Files;
import java.nio.file.Path;
import java.util.Arrays;
import java.util.Set;
import java.util.TreeSet;
import java.util.regex.Matcher;
import java.util.regex.Pattern;

/** The face of the document and no more of it, and the rules of LANGUAGE.md that can be looked up. */
public final class FaceTests {
  private static final String MAIN = "src/main/java/ThriceNets.java";
  private static final String[] FACE = {
    "int node(int, int, int)", "int feed(int, int)", "int output(int, boolean)", "int price(int, int)",
    "int about(int, int)", "int thrice(int, boolean)", "int vote(int, boolean)", "int ticks(int)",
    "int plain(int, int)", "int copy(int, int, int)", "int flip(int, int, int)",
    "int flips(int, int, int, int, int, int)", "int many(int)", "int first()", "int masked(int)",
    "int pairs(int)", "int leads(int, int)", "int breaks(int)", "int best()", "int harden()",
    "int voter(int)", "int cost()", "int slow()", "int sheet(int, int, int)", "int lose(int)",
    "int put(int, int, int, int)", "int get(int, int, int)", "int move(int, int, int, int, int)",
    "int count(int)", "long digest()",
  };

  private FaceTests() {
  }

  public static void main(String[] args) throws Exception {
    face();
    documentsFace();
    constants();
    nested();
    source();
    room();
    Due.end("FaceTests");
  }

  private static void face() {
    Set<String> want = new TreeSet<>(Arrays.asList(FACE));
    Set<String> names = new TreeSet<>();
    for (String row : FACE) {
      names.add(row.substring(row.indexOf(' ') + 1, row.indexOf('(')));
    }
    for (Method method : ThriceNets.class.getDeclaredMethods()) {
      String types = Arrays.toString(Arrays.stream(method.getParameterTypes()).map(Class::getName).toArray());
      String row = method.getReturnType().getName() + " " + method.getName() + "("
          + types.substring(1, types.length() - 1) + ")";
      if (Modifier.isPrivate(method.getModifiers())) {
        Due.dueTrue("private " + row + " has a name of its own", !names.contains(method.getName()));
      } else {
        Due.dueTrue("public " + row, Modifier.isPublic(method.getModifiers()) && want.remove(row));
        Due.dueTrue("of the object " + row, !Modifier.isStatic(method.getModifiers()));
      }
    }
    Due.due("methods that are missing: " + want, want.size(), 0);
    Constructor<?>[] constructors = ThriceNets.class.getDeclaredConstructors();
    Due.due("constructors", constructors.length, 1);
    Due.due("its parameters", constructors[0].getParameterCount(), 0);
    Due.dueTrue("it is public", Modifier.isPublic(constructors[0].getModifiers()));
    Due.dueTrue("the class is public", Modifier.isPublic(ThriceNets.class.getModifiers()));
    Due.dueTrue("the class is final", Modifier.isFinal(ThriceNets.class.getModifiers()));
  }

  /** FACE is the document's own (where that is at hand). */
  private static void documentsFace() throws IOException {
    Path document = Path.of("../shared/DOC.md");
    if (!Files.exists(document)) {
      return;
    }
    Set<String> told = new TreeSet<>();
    Matcher row = Pattern.compile("(?m)^ +public (int|long) (\\w+)\\((.*)\\);$").matcher(Files.readString(document));
    while (row.find()) {
      told.add(row.group(1) + " " + row.group(2) + "(" + row.group(3).replaceAll(" \\w+(?=,|$)", "") + ")");
    }
    Due.dueTrue("the document's face is " + told, told.equals(new TreeSet<>(Arrays.asList(FACE))));
  }

  private static void constants() {
    Due.due("NONE", ThriceNets.NONE, -1);
    Due.due("BAD", ThriceNets.BAD, -2);
    Due.due("NOT", ThriceNets.NOT, -3);
    Due.due("FULL", ThriceNets.FULL, -4);
    Set<String> open = new TreeSet<>();
    for (Field field : ThriceNets.class.getDeclaredFields()) {
      int is = field.getModifiers();
      if (!Modifier.isPrivate(is)) {
        open.add(field.getName());
        Due.dueTrue("public constant " + field, Modifier.isPublic(is) && Modifier.isStatic(is));
      }
      Due.dueTrue("final, if static: " + field, Modifier.isFinal(is) || !Modifier.isStatic(is));
    }
    Due.dueTrue("constants " + open, open.equals(Set.of("NONE", "BAD", "NOT", "FULL")));
  }

  private static void nested() {
    Class<?>[] classes = ThriceNets.class.getDeclaredClasses();
    Due.dueTrue("at most twelve classes", classes.length <= 11);
    for (Class<?> own : classes) {
      int is = own.getModifiers();
      Due.dueTrue("static " + own, Modifier.isStatic(is));
      Due.dueTrue("not public " + own, !Modifier.isPublic(is) && !Modifier.isProtected(is));
      Due.dueTrue("at most twenty fields " + own, own.getDeclaredFields().length <= 20);
      for (Method method : own.getDeclaredMethods()) {
        Due.dueTrue("at most seven parameters " + method, method.getParameterCount() <= 7);
      }
    }
  }

  private static void source() throws IOException {
    String text = Files.readString(Path.of(MAIN));
    String code = text.replaceAll("(?s)/\\*.*?\\*/", " ").replaceAll("//[^\n]*", " ");
    String[] never = {
      "\\b(throw|throws|try|catch|finally|synchronized|assert|package|native|volatile)\\b", "->", "::",
      "\\w+Exact\\b", "\\bstatic\\s*\\{", "\\b(System\\.(?!arraycopy)|Random|Thread|File|Object)\\b",
      "\\bInteger\\.[A-Z]",
    };
    for (String one : never) {
      Matcher found = Pattern.compile(one).matcher(code);
      Due.dueTrue("not in the class: " + one, !found.find());
    }
    Matcher imports = Pattern.compile("(?m)^import (.*);").matcher(code);
    while (imports.find()) {
      Due.dueTrue("import " + imports.group(1), imports.group(1).equals("java.util.Arrays"));
    }
    methodsAreShort(text);
  }

  private static void methodsAreShort(String text) {
    String[] lines = text.split("\n");
    Pattern head = Pattern.compile("^( {4}| {8})(\\w.*\\) \\{)$");
    for (int k = 0; k < lines.length; k++) {
      Matcher found = head.matcher(lines[k]);
      if (found.matches()) {
        int end = k;
        while (end < lines.length && !lines[end].equals(found.group(1) + "}")) {
          end++;
        }
        Due.dueTrue("short: " + found.group(2), end - k <= 60);
      }
    }
  }

  /** All rows are made with the object: the dearest calls, once more and more, make nothing. */
  private static void room() {
    ThriceNets x = new ThriceNets();
    for (int node = 0; node < 24; node++) {
      x.node(node < 12 ? 5 : 4, node < 12 ? -1 : node - 1, node < 12 ? -1 : node - 12);
    }
    for (int store = 0; store < 12; store++) {
      x.feed(store, 23 - store);
    }
    x.output(23, true);
    x.ticks(16);
    x.harden();
    var threads = (com.sun.management.ThreadMXBean) ManagementFactory.getThreadMXBean();
    threads.getCurrentThreadAllocatedBytes();
    long before = threads.getCurrentThreadAllocatedBytes();
    for (int k = 0; k < 100; k++) {
      x.many(k % 4);
      x.pairs(k % 16);
      x.best();
      x.sheet(0, k % 3, 60);
      x.digest();
    }
    long made = threads.getCurrentThreadAllocatedBytes() - before;
    Due.dueTrue("500 dear calls made " + made + " bytes", made < 20000);
  }
}
