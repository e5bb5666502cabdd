import java.lang.reflect.Method;
import java.lang.reflect.Modifier;
import java.nio.file.Files;
import java.nio.file.Path;
import java.util.List;
import java.util.Set;
import java.util.TreeSet;
import java.util.regex.Matcher;
import java.util.regex.Pattern;

/** README.md tells the truth: its example answers what it says, and its table names each call of the class. */
public final class ReadmeTests {
  private static final Pattern CALL = Pattern.compile("river\\.(\\w+)\\(([-\\d, ]*)\\);\\s*// (-?\\d+):.*");
  private static final Pattern TABLE_ROW = Pattern.compile("\\| (tell|do|ask|ask what would be) \\| (.*) \\|");
  private static final Pattern NAME = Pattern.compile("`(\\w+)`");

  private static int wrong = 0;

  public static void main(String[] args) throws Exception {
    List<String> readme = Files.readAllLines(Path.of("README.md"));
    runExample(readme);
    compareTable(readme);
    if (wrong > 0) {
      System.exit(1);
    }
    System.out.println("the README holds");
  }

  private static void runExample(List<String> readme) throws Exception {
    BoomSorters river = new BoomSorters();
    int calls = 0;
    for (String line : readme) {
      if (!line.startsWith("river.")) {
        continue;
      }
      Matcher call = CALL.matcher(line);
      if (!call.matches()) {
        tell("not a call with its answer: " + line);
        continue;
      }
      calls++;
      int answer = answerOf(river, call.group(1), call.group(2));
      if (answer != Integer.parseInt(call.group(3))) {
        tell("answered " + answer + ": " + line);
      }
    }
    // An example that is not found must not look like one that holds.
    if (calls < 10) {
      tell("the example has only " + calls + " calls");
    }
  }

  private static int answerOf(BoomSorters river, String name, String list) throws Exception {
    String[] texts = list.isEmpty() ? new String[0] : list.split(", ");
    Class<?>[] types = new Class<?>[texts.length];
    Object[] values = new Object[texts.length];
    for (int k = 0; k < texts.length; k++) {
      types[k] = int.class;
      values[k] = Integer.valueOf(texts[k]);
    }
    return (Integer) BoomSorters.class.getMethod(name, types).invoke(river, values);
  }

  private static void compareTable(List<String> readme) {
    Set<String> named = new TreeSet<>();
    for (String line : readme) {
      Matcher row = TABLE_ROW.matcher(line);
      if (row.matches()) {
        Matcher name = NAME.matcher(row.group(2));
        while (name.find()) {
          named.add(name.group(1));
        }
      }
    }
    Set<String> due = new TreeSet<>();
    for (Method method : BoomSorters.class.getDeclaredMethods()) {
      if (Modifier.isPublic(method.getModifiers())) {
        due.add(method.getName());
      }
    }
    if (!named.equals(due)) {
      tell("the table names " + named + ", the class has " + due);
    }
  }

  private static void tell(String fault) {
    wrong++;
    System.out.println(fault);
  }
}
