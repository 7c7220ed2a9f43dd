import java.io.IOException;
import java.lang.reflect.Method;
import java.lang.reflect.Modifier;
import java.nio.file.Files;
import java.nio.file.Path;
import java.util.Arrays;
import java.util.HashSet;
import java.util.List;
import java.util.Set;
import java.util.regex.Matcher;
import java.util.regex.Pattern;

/** What README.md tells is so: its calls answer what stands behind them, its tables are whole. */
public final class ReadmeTest {
  private static final Path README = Path.of("README.md");
  private static final Pattern BLOCK = Pattern.compile("```java\\n(.*?)```", Pattern.DOTALL);
  private static final Pattern CALL = Pattern.compile("fountain\\.(\\w+)\\(([^)]*)\\);\\s*// (-?\\d+)");
  private static final Pattern FINDING = Pattern.compile("\\| (-\\d+) \\| [A-Z]+ \\| (\\d) \\|");

  private static int wrong = 0;

  private static void check(boolean right, String what) {
    if (right) return;
    wrong++;
    System.out.println("README.md: " + what);
  }

  private static long answer(ThirdFountain fountain, String name, String args) throws ReflectiveOperationException {
    String[] parts = args.isBlank() ? new String[0] : args.split(",\\s*");
    Class<?>[] types = new Class<?>[parts.length];
    Arrays.fill(types, int.class);
    Object[] values = Arrays.stream(parts).map(Integer::decode).toArray();
    return ((Number) ThirdFountain.class.getMethod(name, types).invoke(fountain, values)).longValue();
  }

  private static void checkCalls(String block) throws ReflectiveOperationException {
    ThirdFountain fountain = new ThirdFountain();
    long told = block.lines().filter(line -> line.startsWith("fountain.")).count();
    long made = 0;
    Matcher m = CALL.matcher(block);
    while (m.find()) {
      made++;
      long got = answer(fountain, m.group(1), m.group(2));
      check(got == Long.parseLong(m.group(3)), m.group() + ": answered " + got);
    }
    check(made > 0 && made == told, made + " of " + told + " calls were made");
  }

  private static void checkTables(String readme) {
    Set<String> named = new HashSet<>();
    Matcher cell = Pattern.compile("(?m)^\\| (`\\w+`(?: `\\w+`)+) \\|").matcher(readme);
    while (cell.find()) named.addAll(List.of(cell.group(1).replace("`", "").split(" ")));
    Set<String> face = new HashSet<>();
    for (Method m : ThirdFountain.class.getDeclaredMethods()) {
      if (Modifier.isPublic(m.getModifiers())) face.add(m.getName());
    }
    check(named.equals(face), "the calls are not those of the face: " + named);

    int findings = 0;
    Matcher m = FINDING.matcher(readme);
    while (m.find()) {
      check(Integer.parseInt(m.group(1)) == -1000001 - Integer.parseInt(m.group(2)), "the finding " + m.group());
      findings++;
    }
    check(findings == 7, findings + " findings are told");
  }

  public static void main(String[] args) throws IOException, ReflectiveOperationException {
    String readme = Files.readString(README);
    Matcher block = BLOCK.matcher(readme);
    check(block.find(), "there are no calls");
    if (wrong == 0) checkCalls(block.group(1));
    checkTables(readme);
    System.out.println(wrong == 0 ? "README.md tells what is so" : wrong + " faults in README.md");
    if (wrong != 0) System.exit(1);
  }
}
