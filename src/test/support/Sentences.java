import java.util.ArrayList;
import java.util.List;
import java.util.function.Supplier;

/**
 * What the tests by sentence share. A test says with holds() which promise and which sentence of the
 * document (0: of its Terms) the rows after it hold; each row is an answer that the sentence asks.
 */
class Sentences {
  static final int BEYOND = -1000001, FULL = -1000002, KIND = -1000003, NONE = -1000004;
  static final int STATE = -1000005, MISSING = -1000006, SIZE = -1000007;
  static final int MIN = Integer.MIN_VALUE, MAX = Integer.MAX_VALUE;

  interface Act {
    long of(ThirdFountain x);
  }

  private static int promise = 0, row = 0, sentences = 0, wrong = 0;
  private static String sentence = "";

  static void holds(int number, String words) {
    promise = number;
    sentence = words;
    row = 0;
    sentences++;
  }

  static void due(long got, long want) {
    row++;
    if (got == want) return;
    wrong++;
    if (wrong > 40) return;
    String of = promise == 0 ? "Terms" : "promise " + promise;
    System.out.println(of + ", \"" + sentence + "\", row " + row + ": answered " + got + ", due is " + want);
  }

  static void allDue(long want, long... got) {
    for (long one : got) due(one, want);
  }

  static void end() {
    System.out.println(wrong == 0 ? sentences + " sentences hold" : wrong + " answers are not as due");
    if (wrong != 0) System.exit(1);
  }

  /** Each act answers this finding, counts it once, and changes nothing else. */
  static void refused(int finding, Supplier<ThirdFountain> made, Act... acts) {
    for (Act act : acts) {
      ThirdFountain x = made.get(), same = made.get();
      due(act.of(x), finding);
      for (int which = -1; which < 7; which++) {
        boolean counts = which == -1 || which == BEYOND - finding;
        due(x.status(which) - same.status(which), counts ? 1 : 0);
      }
      alike(x, same);
    }
  }

  /** Each act answers no finding, and changes nothing. */
  static void onlyAsks(Supplier<ThirdFountain> made, Act... acts) {
    for (Act act : acts) {
      ThirdFountain x = made.get(), same = made.get();
      due(act.of(x) < -1000000 ? 1 : 0, 0);
      for (int which = -1; which < 7; which++) due(x.status(which), same.status(which));
      alike(x, same);
    }
  }

  /** All that can be read of both is the same; they are spoilt by that. */
  static void alike(ThirdFountain x, ThirdFountain y) {
    due(firstUnlike(x, y), -1);
  }

  private static int firstUnlike(ThirdFountain x, ThirdFountain y) {
    List<Long> one = new ArrayList<>(), other = new ArrayList<>();
    readAll(x, one);
    readAll(y, other);
    for (int i = 0; i < Math.min(one.size(), other.size()); i++) {
      if (!one.get(i).equals(other.get(i))) return i;
    }
    return one.size() == other.size() ? -1 : Math.min(one.size(), other.size());
  }

  // ---- reading all that can be read of a fountain; it is spoilt by that

  private static void readAll(ThirdFountain x, List<Long> all) {
    readFountain(x, all);
    for (int s = 0; s < 4; s++) readSheet(x, s, all);
    all.add((long) x.text());
    readFountain(x, all);
    all.add((long) x.undo());
    readFountain(x, all);
  }

  private static void readFountain(ThirdFountain x, List<Long> all) {
    for (int what = 0; what < 8; what++) all.add((long) x.count(what));
    int basins = x.count(1);
    for (int b = 0; b < basins; b++) {
      for (int what = 0; what < 5; what++) all.add((long) x.of(b, what));
    }
    for (int spot = 0; spot < 10; spot++) all.add((long) x.as(spot, 0));
  }

  /** Its bits, how many numbers it has, and which they are as far as they are good for an EDGE. */
  private static void readSheet(ThirdFountain x, int s, List<Long> all) {
    for (int t = 0; t < 4; t++) all.add((long) x.copy(s, 0, t, 0, 0));
    int numbers = 0;
    while (numbers < 40 && x.copy(s, numbers, s, numbers, 1) == 1) numbers++;
    all.add((long) numbers);
    for (int i = 0; i < Math.min(numbers, 10); i++) {
      x.copy(s, i, s, 0, 1);
      all.add((long) x.load(s));
      if (x.count(1) > 0) all.add((long) x.of(0, 2));
    }
  }

  // ---- fountains to begin with

  static ThirdFountain fresh() {
    return new ThirdFountain();
  }

  /** BASINS of these KINDS, each BELOW the one before. */
  static ThirdFountain chain(int... kinds) {
    ThirdFountain x = fresh();
    for (int b = 0; b < kinds.length; b++) x.basin(kinds[b], b - 1);
    return x;
  }

  /** BASIN 0, and all others of these KINDS BELOW it. */
  static ThirdFountain star(int... kinds) {
    ThirdFountain x = fresh();
    for (int b = 0; b < kinds.length; b++) x.basin(kinds[b], b == 0 ? -1 : 0);
    return x;
  }

  /** KIND, what it is BELOW and EDGE of each BASIN in turn. */
  static ThirdFountain laid(int... each) {
    ThirdFountain x = fresh();
    for (int b = 0; 3 * b + 2 < each.length; b++) {
      x.basin(each[3 * b], each[3 * b + 1]);
      x.change(b, 2, each[3 * b + 2]);
    }
    return x;
  }

  /** As many BASINS as can be. */
  static ThirdFountain full() {
    return chain(0, 1, 2, 3, 4, 5, 6, 0, 1, 2);
  }

  /** 81 come to 0: 27 kept, 54 go on; 1 gets 18, keeps 6; 2 (CHIPPED, EDGE 2) gets 36, keeps 14. */
  static ThirdFountain three() {
    return laid(0, -1, 1, 0, 0, 1, 1, 0, 2);
  }

  /** Something of everything, so that an act that should be refused could spoil much. */
  static ThirdFountain rich() {
    ThirdFountain x = laid(0, -1, 1, 5, 0, 2, 2, 0, 1, 3, 1, 3);
    x.spring(45);
    x.hours(1);
    x.hold(0, 1);
    x.hold(4, 3);
    x.seed(77);
    x.image();
    x.change(3, 0, 6);
    x.change(1, 4, 50);
    x.hours(2);
    x.hold(9, 2);
    x.seed(78);
    x.spring(100);
    paper(x, 0, 8, 5, 6, 7);
    paper(x, 1, 16, 9, 8);
    x.sheet(3, 32, 0);
    return fed(x, "spring 7");
  }

  static ThirdFountain atHour(ThirdFountain x, int hour) {
    for (int left = hour - x.now(0); left > 0; left -= 100) x.hours(Math.min(left, 100));
    return x;
  }

  /** The same, at so many HOURS. */
  static Supplier<ThirdFountain> richAt(int hour) {
    return () -> atHour(rich(), hour);
  }

  /** PIPED pairs: what is left in BASIN 9 is 2 ^ 29 by 15 ^ 5 * 17 ^ 4 * 5, too large. */
  static ThirdFountain tooLong() {
    return laid(4, -1, 1, 4, 0, 8, 4, 0, 9, 4, 1, 8, 4, 1, 9, 4, 3, 8, 4, 3, 9, 4, 5, 8, 4, 5, 9, 4, 7, 1);
  }

  // ---- texts and sheets

  static ThirdFountain fed(ThirdFountain x, String text) {
    for (int i = 0; i < text.length(); i += 4) {
      int n = Math.min(4, text.length() - i), bytes = 0;
      for (int j = i; j < i + n; j++) bytes = bytes << 8 | text.charAt(j);
      x.feed(bytes, n);
    }
    return x;
  }

  static int read(ThirdFountain x, String text) {
    return fed(x, text).text();
  }

  static ThirdFountain told(String text) {
    ThirdFountain x = fresh();
    read(x, text);
    return x;
  }

  static ThirdFountain paper(ThirdFountain x, int s, int bits, int... numbers) {
    x.sheet(s, bits, numbers.length);
    for (int i = 0; i < numbers.length; i++) x.write(s, i, numbers[i]);
    return x;
  }
}
