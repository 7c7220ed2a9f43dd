import java.math.BigInteger;
import java.util.ArrayList;
import java.util.Arrays;
import java.util.List;
import java.util.Random;
import java.util.function.IntPredicate;
import java.util.regex.Matcher;
import java.util.regex.Pattern;

/** Runs of drawn calls, each answer compared with that of a second, slower telling of the document. */
public final class RandomRunsTest {

  // ---- the second telling

  private static final int BEYOND = -1000001, FULL = -1000002, KIND = -1000003, NONE = -1000004;
  private static final int STATE = -1000005, MISSING = -1000006, SIZE = -1000007;

  private static final class Finding extends RuntimeException {
    final int number;

    Finding(int number) {
      super(null, null, false, false);
      this.number = number;
    }
  }

  private static void ask(boolean wrong, int finding) {
    if (wrong) throw new Finding(finding);
  }

  private static class Plain {
    int leaks(int c) { return 0; }
    int keeps(int c) { return c / 3; }
    int holds(int c, int p) { return 0; }
    int[] leakPart() { return new int[] {0, 1}; }
    int[] keepPart() { return new int[] {1, 3}; }
  }

  private static class Chipped extends Plain {
    int keeps(int c) { return 2 * c / 5; }
    int[] keepPart() { return new int[] {2, 5}; }
  }

  private static class Leaking extends Plain {
    int leaks(int c) { return c / 10; }
    int[] leakPart() { return new int[] {1, 10}; }
  }

  private static class Holy extends Chipped {
    int keeps(int c) { return 0; }
    int[] keepPart() { return new int[] {0, 1}; }
  }

  private static class Piped extends Leaking {
    int leaks(int c) { return 2 * super.leaks(c); }
    int[] leakPart() { return new int[] {1, 5}; }
  }

  private static class Dammed extends Plain {
    int holds(int c, int p) { return Math.min(30 - p, c); }
  }

  private static class Flooded extends Dammed {
    int holds(int c, int p) { return c > 100 ? 0 : super.holds(c, p); }
  }

  private static final Plain[] KINDS = {
    new Plain(), new Chipped(), new Leaking(), new Holy(), new Piped(), new Dammed(), new Flooded()
  };

  private static final class Basin {
    int kind, below, edge = 1, pool, store, comes, kept;

    Basin(int kind, int below) {
      this.kind = kind;
      this.below = below;
    }

    Basin twin() {
      Basin t = new Basin(kind, below);
      t.edge = edge;
      t.pool = pool;
      t.store = store;
      return t;
    }
  }

  private static final class World {
    List<Basin> basins = new ArrayList<>();
    int spring = 81, hour, z = 1;
    int[] spots = {-1, -1, -1, -1, -1, -1, -1, -1, -1, -1};
    int ranOff, leaked, kept, uneven;

    World twin() {
      World t = new World();
      for (Basin b : basins) t.basins.add(b.twin());
      t.spring = spring;
      t.hour = hour;
      t.z = z;
      t.spots = spots.clone();
      return t;
    }

    int width(int above) {
      int e = 0;
      for (Basin b : basins) if (b.below == above) e += b.edge;
      return e;
    }

    /** One hour; dry: nothing changes but what is told of it. */
    World flow(boolean dry) {
      ranOff = leaked = kept = uneven = 0;
      if (!basins.isEmpty()) pour(0, spring, dry);
      if (!dry) hour++;
      return this;
    }

    void pour(int number, int c, boolean dry) {
      Basin b = basins.get(number);
      Plain kind = KINDS[b.kind];
      b.comes = c;
      int leaks = kind.leaks(c);
      b.kept = kind.keeps(c - leaks);
      int on = c - leaks - b.kept;
      int held = kind.holds(on, b.pool);
      on -= held;
      leaked += leaks;
      kept += b.kept;
      if (!dry) {
        b.store += b.kept;
        b.pool += held;
      }
      int e = width(number);
      int off = on;
      for (int i = 0; i < basins.size(); i++) {
        if (basins.get(i).below != number) continue;
        int part = on * basins.get(i).edge / e;
        off -= part;
        pour(i, part, dry);
      }
      ranOff += off;
      if (e > 0) uneven += off;
    }

    int draw() {
      z = z * 1103515245 + 12345;
      return z >>> 8;
    }
  }

  private static BigInteger[] times(BigInteger[] f, long above, long below) {
    BigInteger a = f[0].multiply(BigInteger.valueOf(above)), b = f[1].multiply(BigInteger.valueOf(below));
    BigInteger g = a.gcd(b);
    a = a.divide(g);
    b = b.divide(g);
    BigInteger most = BigInteger.valueOf(100000000000L);
    ask(a.compareTo(most) > 0 || b.compareTo(most) > 0, SIZE);
    return new BigInteger[] {a, b};
  }

  private static final class Paper {
    int bits;
    int[] numbers;
  }

  private static final class Model {
    World w = new World(), picture;
    List<Integer> tape = new ArrayList<>();
    Paper[] papers = new Paper[4];
    int[] told = new int[7];

    void basinIs(int b) { ask(b < 0 || b >= w.basins.size(), BEYOND); }
    void in(int v, int least, int most) { ask(v < least || v > most, BEYOND); }
    void hourFits(int n) { ask(w.hour + n > 9999, STATE); }

    Paper paper(int s) {
      in(s, 0, 3);
      ask(papers[s] == null, MISSING);
      return papers[s];
    }

    World after(World from, int n) {
      World t = from.twin();
      for (int i = 0; i < n; i++) t.flow(false);
      return t;
    }

    int[] gains(World from, int n) {
      World t = after(from, n);
      int[] got = new int[t.basins.size()];
      for (int b = 0; b < got.length; b++) got[b] = t.basins.get(b).store - w.basins.get(b).store;
      return got;
    }

    BigInteger[] comesPart(int b) {
      if (b == 0) return new BigInteger[] {BigInteger.ONE, BigInteger.ONE};
      int above = w.basins.get(b).below;
      return times(onPart(above), w.basins.get(b).edge, w.width(above));
    }

    BigInteger[] leftPart(int b) {
      int[] l = KINDS[w.basins.get(b).kind].leakPart();
      return times(comesPart(b), l[1] - l[0], l[1]);
    }

    BigInteger[] keptPart(int b) {
      int[] k = KINDS[w.basins.get(b).kind].keepPart();
      return times(leftPart(b), k[0], k[1]);
    }

    BigInteger[] onPart(int b) {
      BigInteger[] l = leftPart(b), k = keptPart(b);
      BigInteger above = l[0].multiply(k[1]).subtract(k[0].multiply(l[1]));
      BigInteger below = l[1].multiply(k[1]), g = above.gcd(below);
      return times(new BigInteger[] {above.divide(g), below.divide(g)}, 1, 1);
    }

    int order(int one, int other) {
      BigInteger[] a = keptPart(one), b = keptPart(other);
      return a[0].multiply(b[1]).compareTo(b[0].multiply(a[1]));
    }

    int first(int from, int to, IntPredicate fits) {
      int step = from <= to ? 1 : -1;
      for (int i = from; i != to + step; i += step) if (fits.test(i)) return i;
      throw new Finding(NONE);
    }

    /** 0 if one is a kind as another one (by the classes above). */
    boolean isOf(int kind, int wanted) { return KINDS[wanted].getClass().isInstance(KINDS[kind]); }

    long call(String name, int[] a) {
      try {
        return answer(name, a);
      } catch (Finding f) {
        told[BEYOND - f.number]++;
        return f.number;
      }
    }

    long answer(String name, int[] a) {
      switch (name) {
        case "basin": case "of": case "change": case "join": case "spring": case "under": case "steps":
          return basins(name, a);
        case "share": case "rest": case "compare": case "extreme": case "needs": case "even":
          return shares(name, a);
        case "hours": case "now": case "ahead": case "when": case "loses":
          return hours(name, a);
        case "edge": case "place": case "kindFor": case "hurt": case "deal": case "law": case "generous":
          return places(name, a);
        case "chips": case "chipped": case "truly": case "weather": case "wear": case "seed":
          return shorts(name, a);
        case "feed": case "wipe": case "text":
          return texts(name, a);
        case "hold": case "as": case "sheet": case "write": case "copy": case "load": case "judge":
          return sheets(name, a);
        default:
          return images(name, a);
      }
    }

    long basins(String name, int[] a) {
      int n = w.basins.size();
      switch (name) {
        case "basin":
          in(a[0], 0, 6);
          if (n == 0) in(a[1], -1, -1);
          else basinIs(a[1]);
          ask(n == 10, FULL);
          w.basins.add(new Basin(a[0], a[1]));
          return n;
        case "of": {
          basinIs(a[0]);
          in(a[1], 0, 6);
          Basin b = w.basins.get(a[0]);
          w.flow(true);
          return new int[] {b.kind, b.below, b.edge, b.pool, b.store, b.comes, b.kept}[a[1]];
        }
        case "change": {
          basinIs(a[0]);
          ask(a[1] == 1, BEYOND);
          in(a[1], 0, 4);
          in(a[2], a[1] == 2 ? 1 : 0, new int[] {6, 0, 9, 30, 99999999}[a[1]]);
          Basin b = w.basins.get(a[0]);
          int was = new int[] {b.kind, 0, b.edge, b.pool, b.store}[a[1]];
          if (a[1] == 0) b.kind = a[2];
          if (a[1] == 2) b.edge = a[2];
          if (a[1] == 3) b.pool = a[2];
          if (a[1] == 4) b.store = a[2];
          return was;
        }
        case "join": {
          basinIs(a[0]);
          ask(a[0] == 0, BEYOND);
          in(a[1], 0, a[0] - 1);
          int was = w.basins.get(a[0]).below;
          w.basins.get(a[0]).below = a[1];
          return was;
        }
        case "spring": {
          in(a[0], 0, 99999);
          int was = w.spring;
          w.spring = a[0];
          return was;
        }
        case "under": {
          basinIs(a[0]);
          in(a[1], 0, 1);
          int set = 0;
          for (int b = 0; b < n; b++) {
            for (int up = w.basins.get(b).below, far = 0; up >= 0; up = w.basins.get(up).below, far++) {
              if (up == a[0] && (far == 0 || a[1] == 1)) set |= 1 << b;
            }
          }
          return set;
        }
        default: {
          basinIs(a[0]);
          int steps = 0;
          for (int up = w.basins.get(a[0]).below; up >= 0; up = w.basins.get(up).below) steps++;
          return steps;
        }
      }
    }

    long shares(String name, int[] a) {
      int n = w.basins.size();
      switch (name) {
        case "share":
          basinIs(a[0]);
          in(a[1], 0, 1);
          return keptPart(a[0])[a[1]].longValueExact();
        case "rest":
          basinIs(a[0]);
          in(a[1], 0, 1);
          if (w.width(a[0]) > 0) return a[1];
          return onPart(a[0])[a[1]].longValueExact();
        case "compare":
          basinIs(a[0]);
          basinIs(a[1]);
          return order(a[0], a[1]);
        case "extreme": {
          in(a[0], 0, 1);
          ask(n == 0, NONE);
          for (int b = 0; b < n; b++) keptPart(b);
          return first(0, n - 1, b -> {
            for (int c = 0; c < n; c++) if (order(b, c) == (a[0] == 0 ? -1 : 1)) return false;
            return true;
          });
        }
        case "needs": {
          in(a[0], 1, 99);
          ask(n == 0, STATE);
          World t = w.twin();
          for (Basin b : t.basins) b.pool = 30;
          return first(1, 99999, s -> {
            t.spring = s;
            t.flow(true);
            return t.basins.stream().allMatch(b -> b.kept >= a[0]);
          });
        }
        default: {
          ask(n == 0, STATE);
          World t = w.twin();
          return first(1, 9999, s -> {
            t.spring = s;
            return t.flow(true).uneven == 0;
          });
        }
      }
    }

    int allAhead(World from, int n, int what) {
      World t = from.twin();
      int sum = 0;
      for (int i = 0; i < n; i++) {
        t.flow(false);
        sum += what == 0 ? t.kept : what == 1 ? t.ranOff : t.leaked;
      }
      return sum;
    }

    long hours(String name, int[] a) {
      switch (name) {
        case "hours": {
          in(a[0], 1, 100);
          hourFits(a[0]);
          int kept = allAhead(w, a[0], 0);
          w = after(w, a[0]);
          return kept;
        }
        case "now":
          in(a[0], 0, 6);
          w.flow(true);
          return new int[] {
            w.hour, w.spring, w.basins.stream().mapToInt(b -> b.store).sum(),
            w.basins.stream().mapToInt(b -> b.pool).sum(), w.ranOff, w.leaked, w.kept
          }[a[0]];
        case "ahead":
          in(a[0], 0, 100);
          in(a[1], 0, 2 + w.basins.size());
          hourFits(a[0]);
          return a[1] < 3 ? allAhead(w, a[0], a[1]) : gains(w, a[0])[a[1] - 3];
        case "when":
          basinIs(a[0]);
          in(a[1], 1, 99999);
          ask(w.hour > 9899, STATE);
          return first(0, 100, n -> after(w, n).basins.get(a[0]).store >= a[1]);
        default: {
          basinIs(a[0]);
          in(a[1], 1, 100);
          hourFits(a[1]);
          BigInteger[] part = keptPart(a[0]);
          BigInteger due = part[0].multiply(BigInteger.valueOf((long) w.spring * a[1])).divide(part[1]);
          return due.intValueExact() - gains(w, a[1])[a[0]];
        }
      }
    }

    interface Turn { void of(World t, int i); }

    /** The first from..to that brings a basin (or, -1, all) most. */
    int best(int from, int to, int basin, int n, Turn turn) {
      int best = from, most = -1;
      for (int i = from; i <= to; i++) {
        World t = w.twin();
        turn.of(t, i);
        int[] got = gains(t, n);
        int brings = basin < 0 ? Arrays.stream(got).sum() : got[basin];
        if (brings > most) {
          most = brings;
          best = i;
        }
      }
      return best;
    }

    long places(String name, int[] a) {
      int size = w.basins.size();
      boolean ofBasin = a.length == 2;
      int n = a[a.length - 1], one = ofBasin ? a[0] : -1;
      if (ofBasin) basinIs(one);
      if (name.equals("place")) ask(one == 0, BEYOND);
      in(n, 1, 60);
      hourFits(n);
      switch (name) {
        case "edge": return best(1, 9, one, n, (t, i) -> t.basins.get(one).edge = i);
        case "place": return best(0, one - 1, one, n, (t, i) -> t.basins.get(one).below = i);
        case "kindFor": return best(0, 6, one, n, (t, i) -> t.basins.get(one).kind = i);
        case "law": return best(0, 6, -1, n, (t, i) -> t.basins.forEach(b -> b.kind = i));
        case "hurt": {
          World t = w.twin();
          t.basins.get(one).kind = 1;
          int[] was = gains(w, n), got = gains(t, n);
          int set = 0;
          for (int b = 0; b < size; b++) if (got[b] < was[b]) set += 1 << b;
          return set;
        }
        case "deal": {
          int[] was = gains(w, n);
          return first(12, 98, pair -> {
            int i = pair / 10, j = pair % 10;
            if (i >= j || j >= size) return false;
            World t = w.twin();
            Basin x = t.basins.get(i), y = t.basins.get(j);
            int swap = x.below;
            x.below = y.below;
            y.below = swap;
            if (i == 0 || x.below >= i || y.below >= j) return false;
            int[] got = gains(t, n);
            return got[i] > was[i] && got[j] > was[j];
          });
        }
        default: {
          ask(size == 0, NONE);
          int[] was = gains(w, n);
          int best = 0, most = -1;
          for (int i = 0; i < size; i++) {
            World t = w.twin();
            t.basins.get(i).kind = 3;
            int[] got = gains(t, n);
            int more = 0;
            for (int b = 0; b < size; b++) if (b != i && got[b] > was[b]) more++;
            if (more > most) {
              most = more;
              best = i;
            }
          }
          return best;
        }
      }
    }

    List<Integer> chipSets(Paper p) {
      List<Integer> sets = new ArrayList<>();
      int n = w.basins.size();
      for (int set = 0; set < 1 << n; set++) {
        World t = w.twin();
        for (int b = 0; b < n; b++) t.basins.get(b).kind = (set >> b) % 2;
        t.flow(true);
        boolean same = true;
        for (int b = 0; b < Math.min(n, p.numbers.length); b++) same &= t.basins.get(b).kept == p.numbers[b];
        if (same) sets.add(set);
      }
      return sets;
    }

    long shorts(String name, int[] a) {
      int n = w.basins.size();
      switch (name) {
        case "chips": return chipSets(paper(a[0])).size();
        case "chipped": {
          in(a[1], 0, 2);
          List<Integer> sets = chipSets(paper(a[0]));
          ask(sets.isEmpty(), NONE);
          if (a[1] == 0) return sets.get(0);
          return sets.stream().reduce((x, y) -> a[1] == 1 ? x & y : x | y).get();
        }
        case "truly": {
          basinIs(a[0]);
          in(a[1], 0, 9999);
          in(a[2], 0, 1);
          World t = w.twin();
          return first(a[2] == 0 ? 0 : 9999, a[2] == 0 ? 9999 : 0, s -> {
            t.spring = s;
            t.flow(true);
            return t.basins.get(a[0]).kept == a[1];
          });
        }
        case "weather": {
          in(a[0], 1, 12);
          hourFits(a[0]);
          int sum = 0;
          for (int i = 0; i < a[0]; i++) {
            w.spring = w.draw() % 300;
            sum += w.flow(false).kept;
          }
          return sum;
        }
        case "wear":
          in(a[0], 1, 12);
          ask(n == 0, STATE);
          for (int i = 0; i < a[0]; i++) {
            Basin b = w.basins.get(w.draw() % n);
            b.kind = w.draw() % 7;
          }
          return w.flow(true).kept;
        default: {
          int was = w.z;
          w.z = a[0];
          return was;
        }
      }
    }

    static final Pattern TOKEN = Pattern.compile("[a-z]+|[0-9]+|;|[^ ]");
    static final List<String> WORDS =
        List.of("basin", "chipped", "leaking", "holy", "piped", "dammed", "flooded");

    long texts(String name, int[] a) {
      switch (name) {
        case "feed":
          in(a[1], 1, 4);
          ask(tape.size() + a[1] > 120, FULL);
          for (int i = a[1] - 1; i >= 0; i--) tape.add(a[0] >> 8 * i & 255);
          return tape.size();
        case "wipe": {
          int had = tape.size();
          tape.clear();
          return had;
        }
        default: {
          StringBuilder all = new StringBuilder();
          for (int b : tape) all.append((char) b);
          tape.clear();
          World t = w.twin();
          long told = read(t, all.toString());
          if (told >= 0) w = t;
          return told;
        }
      }
    }

    /** By the state of a little machine: what may stand next. */
    long read(World t, String all) {
      Matcher m = TOKEN.matcher(all);
      String state = "item";
      int items = 0;
      while (m.find()) {
        String token = m.group();
        int fault = -1 - m.start();
        boolean number = Character.isDigit(token.charAt(0)) && token.charAt(0) < 128;
        long value = number ? new BigInteger(token).min(BigInteger.valueOf(100000)).longValue() : -1;
        int size = t.basins.size();
        Basin last = size > 0 ? t.basins.get(size - 1) : null;
        switch (state) {
          case "item":
            if (token.equals("spring")) {
              state = "spring";
            } else if (WORDS.contains(token) && size < 10) {
              t.basins.add(new Basin(WORDS.indexOf(token), -1));
              state = size > 0 ? "below" : "edge?";
            } else return fault;
            break;
          case "spring":
            if (!number || value > 99999) return fault;
            t.spring = (int) value;
            state = ";";
            break;
          case "below":
            if (!token.equals("below")) return fault;
            state = "which";
            break;
          case "which":
            if (!number || value > size - 2) return fault;
            last.below = (int) value;
            state = "edge?";
            break;
          case "edge":
            if (!number || value < 1 || value > 9) return fault;
            last.edge = (int) value;
            state = ";";
            break;
          default:
            if (token.equals(";")) {
              items++;
              state = "item";
            } else if (token.equals("edge") && state.equals("edge?")) {
              state = "edge";
            } else return fault;
        }
      }
      return state.equals(";") || state.equals("edge?") ? items + 1 : -1 - all.length();
    }

    long sheets(String name, int[] a) {
      switch (name) {
        case "hold":
          in(a[0], 0, 9);
          in(a[1], -1, w.basins.size() - 1);
          w.spots[a[0]] = a[1];
          return 1;
        case "as":
          in(a[0], 0, 9);
          in(a[1], 0, 6);
          ask(w.spots[a[0]] < 0, MISSING);
          ask(!isOf(w.basins.get(w.spots[a[0]]).kind, a[1]), KIND);
          return w.spots[a[0]];
        case "sheet":
          in(a[0], 0, 3);
          ask(!List.of(0, 8, 16, 32).contains(a[1]), BEYOND);
          ask(a[2] < 0, SIZE);
          in(a[2], 0, 40);
          papers[a[0]] = null;
          if (a[1] == 0) return 0;
          papers[a[0]] = new Paper();
          papers[a[0]].bits = a[1];
          papers[a[0]].numbers = new int[a[2]];
          return a[2];
        case "write": {
          Paper p = paper(a[0]);
          in(a[1], 0, p.numbers.length - 1);
          p.numbers[a[1]] = a[2] << 32 - p.bits >> 32 - p.bits;
          return 1;
        }
        case "copy": {
          in(a[0], 0, 3);
          in(a[2], 0, 3);
          Paper p = paper(a[0]), q = paper(a[2]);
          ask(p.bits != q.bits, KIND);
          ask(a[1] < 0 || a[3] < 0 || a[4] < 0, BEYOND);
          ask((long) a[1] + a[4] > p.numbers.length || (long) a[3] + a[4] > q.numbers.length, BEYOND);
          int[] were = p.numbers.clone();
          for (int i = 0; i < a[4]; i++) q.numbers[a[3] + i] = were[a[1] + i];
          return a[4];
        }
        case "load": {
          int came = 0;
          for (int v : paper(a[0]).numbers) {
            if (v < 1 || v > 9 || came >= w.basins.size()) break;
            w.basins.get(came++).edge = v;
          }
          return came;
        }
        default: {
          Paper p = paper(a[0]);
          basinIs(a[1]);
          hourFits(p.numbers.length);
          World t = w.twin();
          for (int i = 0; i < p.numbers.length; i++) {
            if (t.flow(false).basins.get(a[1]).kept != p.numbers[i]) return 1 + i;
          }
          return 0;
        }
      }
    }

    long images(String name, int[] a) {
      switch (name) {
        case "image":
          picture = w.twin();
          return 1;
        case "undo":
          ask(picture == null, NONE);
          w = picture.twin();
          return w.hour;
        case "tear": {
          int was = picture == null ? 0 : 1;
          picture = null;
          return was;
        }
        case "count":
          in(a[0], 0, 7);
          return new int[] {
            w.hour, w.basins.size(), w.basins.stream().mapToInt(b -> b.edge).sum(),
            w.basins.stream().mapToInt(b -> b.pool).sum(), w.spring, tape.size(), w.z,
            (int) Arrays.stream(w.spots).filter(b -> b >= 0).count()
          }[a[0]];
        default:
          in(a[0], -1, 6);
          return a[0] < 0 ? Arrays.stream(told).sum() : told[a[0]];
      }
    }
  }

  // ---- the class

  private static long call(ThirdFountain x, String name, int[] a) {
    switch (name) {
      case "basin": return x.basin(a[0], a[1]);
      case "of": return x.of(a[0], a[1]);
      case "change": return x.change(a[0], a[1], a[2]);
      case "join": return x.join(a[0], a[1]);
      case "spring": return x.spring(a[0]);
      case "under": return x.under(a[0], a[1]);
      case "steps": return x.steps(a[0]);
      case "share": return x.share(a[0], a[1]);
      case "rest": return x.rest(a[0], a[1]);
      case "compare": return x.compare(a[0], a[1]);
      case "extreme": return x.extreme(a[0]);
      case "needs": return x.needs(a[0]);
      case "even": return x.even();
      case "hours": return x.hours(a[0]);
      case "now": return x.now(a[0]);
      case "ahead": return x.ahead(a[0], a[1]);
      case "when": return x.when(a[0], a[1]);
      case "loses": return x.loses(a[0], a[1]);
      case "edge": return x.edge(a[0], a[1]);
      case "place": return x.place(a[0], a[1]);
      case "kindFor": return x.kindFor(a[0], a[1]);
      case "hurt": return x.hurt(a[0], a[1]);
      case "deal": return x.deal(a[0]);
      case "law": return x.law(a[0]);
      case "generous": return x.generous(a[0]);
      case "chips": return x.chips(a[0]);
      case "chipped": return x.chipped(a[0], a[1]);
      case "truly": return x.truly(a[0], a[1], a[2]);
      case "weather": return x.weather(a[0]);
      case "wear": return x.wear(a[0]);
      case "seed": return x.seed(a[0]);
      case "feed": return x.feed(a[0], a[1]);
      case "wipe": return x.wipe();
      case "text": return x.text();
      case "hold": return x.hold(a[0], a[1]);
      case "as": return x.as(a[0], a[1]);
      case "sheet": return x.sheet(a[0], a[1], a[2]);
      case "write": return x.write(a[0], a[1], a[2]);
      case "copy": return x.copy(a[0], a[1], a[2], a[3], a[4]);
      case "load": return x.load(a[0]);
      case "judge": return x.judge(a[0], a[1]);
      case "image": return x.image();
      case "undo": return x.undo();
      case "tear": return x.tear();
      case "count": return x.count(a[0]);
      case "status": return x.status(a[0]);
      default: throw new IllegalArgumentException(name);
    }
  }

  // ---- the runs

  /** Each call with what its arguments are drawn from; "name" alone takes none. */
  private static final String[] CALLS = {
    "basin kind basin", "of basin what6", "change basin what4 value", "join basin basin", "spring spring",
    "under basin what1", "steps basin", "share basin what1", "rest basin what1", "compare basin basin",
    "extreme what1", "needs v99", "even", "hours n100", "now what6", "ahead n100 what12",
    "when basin value", "loses basin n100", "edge basin n60", "place basin n60", "kindFor basin n60",
    "hurt basin n60", "deal n60", "law n60", "generous n60", "chips sheet", "chipped sheet what2",
    "truly basin kept what1", "weather n12", "wear n12", "seed value", "feed value n4", "wipe", "text",
    "hold spot basin", "as spot kind", "sheet sheet bits n40", "write sheet n40 value",
    "copy sheet n40 sheet n40 n40", "load sheet", "judge sheet basin", "image", "undo", "tear",
    "count what7", "status what6"
  };

  private static int argument(String from, Random r, int basins, int oddOneIn) {
    if (r.nextInt(oddOneIn) == 0) {
      int[] odd = {Integer.MIN_VALUE, Integer.MAX_VALUE, -1, 10, 100, -2, 101, 41, 61, 13, 100000};
      return odd[r.nextInt(odd.length)];
    }
    switch (from) {
      case "basin": return basins == 0 ? -1 : r.nextInt(basins + (r.nextInt(20) == 0 ? 1 : 0));
      case "kind": return r.nextInt(7);
      case "value": {
        int[] most = {10, 40, 300, 100000, 100000010};
        return r.nextInt(10) == 0 ? r.nextInt() : r.nextInt(most[r.nextInt(most.length)]);
      }
      case "spring": return r.nextInt(new int[] {30, 300, 2000, 100000}[r.nextInt(4)]);
      case "kept": return r.nextInt(new int[] {30, 300, 2000}[r.nextInt(3)]);
      case "v99": return 1 + r.nextInt(r.nextBoolean() ? 5 : 99);
      case "sheet": return r.nextInt(10) == 0 ? r.nextInt(5) : r.nextInt(2);
      case "bits": return new int[] {0, 8, 16, 32, 16, 32, 24}[r.nextInt(7)];
      case "spot": return r.nextInt(4);
      default: {
        int digits = 0;
        while (!Character.isDigit(from.charAt(digits))) digits++;
        int most = Integer.parseInt(from.substring(digits));
        boolean small = most > 12 && r.nextInt(3) > 0;
        return (from.charAt(0) == 'w' ? 0 : 1) + r.nextInt((small ? 8 : most) + 1) - (r.nextInt(9) == 0 ? 1 : 0);
      }
    }
  }

  private static final String[] PIECES = {
    "basin", "chipped", "leaking", "holy", "piped", "dammed", "flooded", " below ", "below", " edge ",
    "edge", "spring", "spring ", ";", " ; ", " ", "0", "1", "2", "5", "9", "10", "007", "99999", "100000",
    "x", "B", "\t", "basins", "below0", ":"
  };

  private static String drawnText(Random r, int basins) {
    StringBuilder text = new StringBuilder();
    for (int i = 0, n = 1 + r.nextInt(4); i < n; i++) {
      if (i > 0) text.append(r.nextBoolean() ? ";" : " ; ");
      if (r.nextInt(4) == 0) {
        text.append("spring ").append(r.nextInt(r.nextInt(5) == 0 ? 120000 : 999));
      } else {
        text.append(Model.WORDS.get(r.nextInt(7)));
        if (basins++ > 0) text.append(" below ").append(r.nextInt(basins));
        if (r.nextInt(3) == 0) text.append(" edge ").append(r.nextInt(11));
      }
    }
    for (int i = r.nextInt(3); i > 0; i--) {
      int at = r.nextInt(text.length() + 1);
      text.insert(at, PIECES[r.nextInt(PIECES.length)]);
    }
    return text.substring(0, Math.min(text.length(), 120));
  }

  private static int wrong = 0;

  private static void compare(ThirdFountain x, Model m, int run, String name, int... a) {
    long due = m.call(name, a);
    long got = call(x, name, a);
    if (due != got && wrong++ < 20) {
      System.out.println("run " + run + ": " + name + Arrays.toString(a) + " answered " + got + ", due is " + due);
    }
  }

  private static void feedText(ThirdFountain x, Model m, int run, String text) {
    for (int i = 0; i < text.length(); i += 4) {
      int n = Math.min(4, text.length() - i), bytes = 0;
      for (int j = i; j < i + n; j++) bytes = bytes << 8 | text.charAt(j);
      compare(x, m, run, "feed", bytes, n);
    }
  }

  /** Numbers on a sheet that chips() and judge() can find. */
  private static void fillSheet(ThirdFountain x, Model m, Random r, int run) {
    int n = m.w.basins.size();
    if (n == 0) return;
    compare(x, m, run, "sheet", 0, 32, 1 + r.nextInt(n));
    World t = m.w.twin();
    boolean chips = r.nextBoolean();
    int house = r.nextInt(n);
    for (Basin b : t.basins) if (chips) b.kind = r.nextInt(2);
    for (int i = 0; i < m.papers[0].numbers.length; i++) {
      if (!chips || i == 0) t.flow(false);
      int v = t.basins.get(chips ? i : house).kept + (r.nextInt(12) == 0 ? 1 : 0);
      compare(x, m, run, "write", 0, i, v);
    }
    if (!chips) compare(x, m, run, "judge", 0, house);
    compare(x, m, run, "chips", 0);
    for (int what = 0; what < 3; what++) compare(x, m, run, "chipped", 0, what);
  }

  /** Pairs of PIPED basins below one another: their fractions come near to SIZE, or beyond it. */
  private static void buildLongFractions(ThirdFountain x, Model m, Random r, int run) {
    for (int b = 0; b < 10; b++) {
      int below = b == 0 ? -1 : b < 3 ? 0 : b % 2 == 1 ? b - 2 : b - 3;
      compare(x, m, run, "basin", r.nextInt(12) > 0 ? 4 : r.nextInt(7), below);
      int edge = b == 9 ? 1 : b % 2 == 0 ? 9 : new int[] {1, 4, 8, 8, 8}[r.nextInt(5)];
      compare(x, m, run, "change", b, 2, edge);
    }
    for (int b = 0; b < 10; b++) {
      for (int what = 0; what < 2; what++) {
        compare(x, m, run, "share", b, what);
        compare(x, m, run, "rest", b, what);
      }
      compare(x, m, run, "compare", b, r.nextInt(10));
      compare(x, m, run, "loses", b, 1 + r.nextInt(100));
    }
    compare(x, m, run, "extreme", 0);
    compare(x, m, run, "extreme", 1);
  }

  private static void run(int number) {
    Random r = new Random(number);
    ThirdFountain x = new ThirdFountain();
    Model m = new Model();
    if (number % 4 == 0) buildLongFractions(x, m, r, number);
    int wanted = number % 4 == 0 ? 0 : r.nextInt(11);
    boolean chain = r.nextBoolean();
    int oddOneIn = number % 10 == 3 ? 3 : 60;
    for (int b = 0; b < wanted; b++) {
      int below = b == 0 ? -1 : chain && r.nextInt(3) > 0 ? b - 1 : r.nextInt(b);
      compare(x, m, number, "basin", r.nextBoolean() ? 0 : r.nextInt(7), below);
      if (r.nextBoolean()) compare(x, m, number, "change", b, 2, 1 + r.nextInt(9));
    }
    if (number % 25 == 0) for (int i = 0; i < 98; i++) compare(x, m, number, "hours", 100);
    for (int i = 0; i < 250; i++) {
      int size = m.w.basins.size();
      if (r.nextInt(25) == 0) {
        compare(x, m, number, "wipe");
        feedText(x, m, number, drawnText(r, size));
        compare(x, m, number, "text");
        continue;
      }
      if (r.nextInt(40) == 0) fillSheet(x, m, r, number);
      String[] parts = CALLS[r.nextInt(CALLS.length)].split(" ");
      if (parts[0].equals("needs") && r.nextInt(4) > 0) continue;
      int[] a = new int[parts.length - 1];
      for (int j = 0; j < a.length; j++) a[j] = argument(parts[j + 1], r, size, oddOneIn);
      compare(x, m, number, parts[0], a);
    }
    for (int b = 0; b < m.w.basins.size(); b++) {
      for (int what = 0; what < 7; what++) compare(x, m, number, "of", b, what);
      compare(x, m, number, "share", b, 1);
    }
    for (int what = 0; what < 8; what++) compare(x, m, number, "count", what);
    for (int which = -1; which < 7; which++) compare(x, m, number, "status", which);
  }

  public static void main(String[] args) {
    int runs = args.length > 0 ? Integer.parseInt(args[0]) : 200;
    for (int number = 1; number <= runs; number++) run(number);
    System.out.println(wrong == 0 ? runs + " runs are as due" : wrong + " answers are not as due");
    if (wrong != 0) System.exit(1);
  }
}
