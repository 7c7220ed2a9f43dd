import java.io.IOException;
import java.nio.file.Files;
import java.nio.file.Path;
import java.util.ArrayList;
import java.util.List;
import java.util.Map;
import java.util.TreeMap;
import java.util.regex.Matcher;
import java.util.regex.Pattern;
import java.util.stream.Collectors;
import java.util.stream.Stream;

/** What the tests quote with holds() stands in the document, and each sentence of a promise has a test. */
public final class QuotesTest {
  private static final Path DOCUMENT = Path.of("../shared/DOC.md"), TESTS = Path.of("src/test/java");
  private static final Pattern PROMISE = Pattern.compile("## Promise (\\d+): \\w[^`]*`[^`]*`: (.*?) ?(?=## )");
  private static final Pattern QUOTE = Pattern.compile("holds\\((\\d+),\\s*((?:\"[^\"]*\"[\\s+]*)+)\\);");

  private static int wrong = 0;

  private static void check(boolean right, String what) {
    if (right) return;
    wrong++;
    System.out.println(what);
  }

  /** Parts that end by a full stop; the two of "0, 1, .." end nothing. */
  private static List<String> sentences(String text) {
    return Stream.of(text.split("(?<!\\.)\\.(?= |$)")).map(String::trim).filter(s -> s.length() > 1).collect(Collectors.toList());
  }

  private static Map<Integer, List<String>> document() throws IOException {
    String all = Files.readString(DOCUMENT).replaceAll("```(text)?", "").replaceAll("\\s+", " ");
    Map<Integer, List<String>> told = new TreeMap<>();
    String calls = all.substring(all.indexOf("An object is used"), all.indexOf("## The public face"));
    String terms = all.substring(all.indexOf("FINDINGS are"), all.indexOf("Ahead of the calls"));
    told.put(0, sentences(calls + terms));
    Matcher m = PROMISE.matcher(all);
    while (m.find()) told.put(Integer.parseInt(m.group(1)), sentences(m.group(2)));
    return told;
  }

  private static Map<Integer, List<String>> quotes() throws IOException {
    Map<Integer, List<String>> told = new TreeMap<>();
    List<Path> tests;
    try (Stream<Path> files = Files.list(TESTS)) {
      tests = files.filter(f -> f.toString().endsWith(".java")).sorted().collect(Collectors.toList());
    }
    for (Path test : tests) {
      Matcher m = QUOTE.matcher(Files.readString(test));
      while (m.find()) {
        String words = m.group(2).trim().replaceAll("\"\\s*\\+\\s*\"", "");
        told.computeIfAbsent(Integer.parseInt(m.group(1)), n -> new ArrayList<>()).add(words.substring(1, words.length() - 1));
      }
    }
    return told;
  }

  public static void main(String[] args) throws IOException {
    if (!Files.exists(DOCUMENT)) {
      System.out.println("the document is not here: quotes are not looked up");
      return;
    }
    Map<Integer, List<String>> document = document(), quotes = quotes();
    check(document.size() == 48, "the document was read as " + document.keySet());
    for (int n : document.keySet()) {
      List<String> here = quotes.getOrDefault(n, List.of());
      for (String quote : here) {
        check(document.get(n).stream().anyMatch(s -> s.contains(quote)), n + ": the document does not say \"" + quote + "\"");
      }
      for (String sentence : document.get(n)) {
        check(here.stream().anyMatch(sentence::contains), n + ": no test holds \"" + sentence + "\"");
      }
    }
    System.out.println(wrong == 0 ? "each sentence has a test" : wrong + " faults in the quotes");
    if (wrong != 0) System.exit(1);
  }
}
