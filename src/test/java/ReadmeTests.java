import java.io.IOException;
import java.lang.reflect.Method;
import java.lang.reflect.Modifier;
import java.nio.file.Files;
import java.nio.file.Path;
import java.util.regex.Matcher;
import java.util.regex.Pattern;

/** README.md's example answers what is written beside it, and its table has every call. */
public final class ReadmeTests {
  private static String readme = "";
  private static int at = 0;

  private ReadmeTests() {
  }

  public static void main(String[] args) throws IOException {
    readme = Files.readString(Path.of("README.md"));
    example();
    table();
    Due.dueTrue("it says how to run the tests", readme.contains("```sh\n.ci/run\n```"));
    Due.end("ReadmeTests");
  }

  /** The next line of the example: what is read behind a call must be its answer. */
  private static void line(String code, long answer) {
    Matcher found = Pattern.compile("(?m)^" + Pattern.quote(code) + "(?: *// *(-?[0-9]+)?.*)?$").matcher(readme);
    boolean is = found.find(at);
    Due.dueTrue("the example goes on with " + code, is);
    if (is) {
      at = found.end();
      if (found.group(1) != null) {
        Due.due("the example: " + code, answer, Long.parseLong(found.group(1)));
      }
    }
  }

  private static void example() {
    ThriceNets x = new ThriceNets();
    line("ThriceNets x = new ThriceNets();", 0);
    int in = x.node(0, -1, -1);
    line("int in = x.node(0, -1, -1);", in);
    int held = x.node(5, -1, -1);
    line("int held = x.node(5, -1, -1);", held);
    int sum = x.node(4, in, held);
    line("int sum = x.node(4, in, held);", sum);
    line("x.feed(held, sum);", x.feed(held, sum));
    line("x.output(sum, true);", x.output(sum, true));
    line("x.sheet(0, 0, 4);", x.sheet(0, 0, 4));
    line("x.put(0, 0, 0, 1);", x.put(0, 0, 0, 1));
    line("x.ticks(4);", x.ticks(4));
    line("x.flip(1, held, 0);", x.flip(1, held, 0));
    line("x.harden();", x.harden());
    line("x.flip(1, held, 0);", x.flip(1, held, 0));
    line("x.cost();", x.cost());
    line("x.slow();", x.slow());
    Due.dueTrue("the example ends here", readme.startsWith("\n```", at));
  }

  private static void table() {
    for (Method method : ThriceNets.class.getDeclaredMethods()) {
      if (Modifier.isPublic(method.getModifiers())) {
        Matcher row = Pattern.compile("(?m)^\\| `" + method.getName() + "\\(([^)]*)\\)` \\|").matcher(readme);
        boolean is = row.find();
        Due.dueTrue("the table has " + method.getName(), is);
        if (is) {
          int told = row.group(1).isEmpty() ? 0 : row.group(1).split(", ").length;
          Due.due("its parameters: " + method.getName(), told, method.getParameterCount());
        }
      }
    }
  }
}
