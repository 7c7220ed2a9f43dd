/** Promises 27 to 32, and what the Terms say of DRAWS, sentence by sentence. */
public final class ShortsTest extends Sentences {

  /** three() with numbers on sheet 0. */
  private static ThirdFountain noted(int... numbers) {
    return paper(three(), 0, 16, numbers);
  }

  private static void chips() {
    holds(27, "Sets of BASINS such that, these being CHIPPED, all others of KIND 0, BASINS 0, 1, .. KEEP in an HOUR "
        + "as many cups as the numbers of a sheet are (as far as there are both): how many");
    due(noted(27, 6, 14).chips(0), 1);
    due(noted(27, 6).chips(0), 2);
    due(noted(27, 6, 14, 1000).chips(0), 1);
    due(noted(28).chips(0), 0);
    due(noted(27, 6, 13).chips(0), 0);
    due(noted(27, -6).chips(0), 0);
    due(noted().chips(0), 8);
    // No BASINS: the set of none. 10 BASINS: all sets.
    due(paper(fresh(), 0, 8, 1, 2, 3).chips(0), 1);
    due(paper(fresh(), 0, 8).chips(0), 1);
    due(paper(full(), 0, 8).chips(0), 1024);
    ThirdFountain x = full();
    x.spring(0);
    due(paper(x, 3, 32, 0, 0, 0, 0, 0, 0, 0, 0, 0, 0, 5).chips(3), 1024);
    // Whatever KINDS they are of, and whatever is in the POOLS.
    x = chain(6, 3);
    due(paper(x, 0, 32, 27, 18).chips(0), 1);
    due(paper(x, 0, 32, 0, 0).chips(0), 0);
    due(paper(chain(5, 0), 0, 8, 32, 16).chips(0), 1);
    x.hours(1);
    due(x.chips(0), 0);
    x.spring(2);
    due(x.chips(0), 4);
    // 40 numbers of 10 BASINS.
    x = full();
    x.sheet(1, 16, 40);
    x.spring(2);
    due(x.chips(1), 1024);
    onlyAsks(() -> noted(27, 6), y -> y.chips(0));

    holds(27, "BEYOND: no such sheet");
    refused(BEYOND, Sentences::rich, y -> y.chips(4), y -> y.chips(-1), y -> y.chips(MIN), y -> y.chips(MAX));
    refused(BEYOND, Sentences::fresh, y -> y.chips(4));

    holds(27, "MISSING");
    refused(MISSING, Sentences::rich, y -> y.chips(2));
    refused(MISSING, Sentences::fresh, y -> y.chips(0), y -> y.chips(3));
  }

  private static ThirdFountain springOf(int cups, int... numbers) {
    ThirdFountain x = noted(numbers);
    x.spring(cups);
    return x;
  }

  private static void setsDue(ThirdFountain x, int least, int inAll, int inAny) {
    due(x.chipped(0, 0), least);
    due(x.chipped(0, 1), inAll);
    due(x.chipped(0, 2), inAny);
  }

  private static void chipped() {
    holds(28, "The least such set (what 0), BASINS in all of them (1), in any (2)");
    setsDue(noted(27, 6, 14), 4, 4, 4);
    setsDue(springOf(3, 1, 0, 0), 0, 0, 7);
    setsDue(springOf(5, 2), 1, 1, 7);
    setsDue(noted(), 0, 0, 7);
    setsDue(noted(32), 1, 1, 7);
    setsDue(noted(27, 7), 2, 2, 6);
    setsDue(paper(fresh(), 0, 8, 1), 0, 0, 0);
    setsDue(paper(full(), 0, 8), 0, 0, 1023);
    // Sheets one after the other, and the same one with another number.
    ThirdFountain x = paper(noted(), 1, 16, 27, 6, 14);
    setsDue(x, 0, 0, 7);
    allDue(4, x.chipped(1, 0), x.chipped(1, 1), x.chipped(1, 2));
    x.write(1, 2, 12);
    allDue(0, x.chipped(1, 0), x.chipped(1, 1), x.chipped(1, 2));
    onlyAsks(() -> noted(27, 6), y -> y.chipped(0, 0), y -> y.chipped(0, 1), y -> y.chipped(0, 2));

    holds(28, "BEYOND: what");
    refused(BEYOND, () -> noted(27), y -> y.chipped(0, 3), y -> y.chipped(0, -1), y -> y.chipped(0, MIN), y -> y.chipped(0, MAX));
    refused(BEYOND, Sentences::rich, y -> y.chipped(2, 3), y -> y.chipped(2, -1));
    refused(BEYOND, Sentences::fresh, y -> y.chipped(0, 3));

    holds(28, "BEYOND: no such sheet");
    refused(BEYOND, Sentences::rich, y -> y.chipped(4, 0), y -> y.chipped(-1, 0), y -> y.chipped(MIN, 0), y -> y.chipped(MAX, 2));

    holds(28, "MISSING");
    refused(MISSING, Sentences::rich, y -> y.chipped(2, 0), y -> y.chipped(2, 1), y -> y.chipped(2, 2));
    refused(MISSING, Sentences::fresh, y -> y.chipped(0, 0));

    holds(28, "NONE: there is none");
    refused(NONE, () -> noted(28), y -> y.chipped(0, 0), y -> y.chipped(0, 1), y -> y.chipped(0, 2));
    refused(NONE, () -> noted(-27), y -> y.chipped(0, 0));
  }

  private static void truly() {
    holds(29, "The least SPRING (0 to 9999) by which a BASIN KEEPS v cups (0 to 9999) in an HOUR (what 0), the greatest (1)");
    ThirdFountain x = three();
    due(x.truly(0, 27, 0), 81);
    due(x.truly(0, 27, 1), 83);
    due(x.truly(0, 0, 0), 0);
    due(x.truly(0, 0, 1), 2);
    due(x.truly(0, 3333, 0), 9999);
    due(x.truly(0, 3333, 1), 9999);
    due(chain(1).truly(0, 3999, 0), 9998);
    due(chain(1).truly(0, 3999, 1), 9999);
    due(chain(3).truly(0, 0, 0), 0);
    due(chain(3).truly(0, 0, 1), 9999);
    due(chain(4).truly(0, 3, 0), 9);
    due(chain(4).truly(0, 3, 1), 13);
    due(chain(4).truly(0, 2, 0), 6);
    due(chain(4).truly(0, 2, 1), 10);
    // POOLS as they are.
    x = chain(5, 0);
    due(x.truly(1, 1, 0), 49);
    due(x.truly(1, 0, 1), 48);
    x.change(0, 3, 30);
    due(x.truly(1, 1, 0), 4);
    due(x.of(0, 3), 30);
    due(x.now(1), 81);
    onlyAsks(Sentences::three, y -> y.truly(0, 27, 0), y -> y.truly(2, 0, 1));

    holds(29, "BEYOND");
    refused(BEYOND, Sentences::rich, y -> y.truly(4, 1, 0), y -> y.truly(-1, 1, 0), y -> y.truly(MIN, 1, 0),
        y -> y.truly(MAX, 1, 0), y -> y.truly(0, -1, 0), y -> y.truly(0, 10000, 0), y -> y.truly(0, MIN, 0),
        y -> y.truly(0, MAX, 0), y -> y.truly(0, 1, 2), y -> y.truly(0, 1, -1), y -> y.truly(0, 1, MIN), y -> y.truly(0, 1, MAX));
    refused(BEYOND, Sentences::fresh, y -> y.truly(0, 0, 0));

    holds(29, "NONE");
    // By a SPRING of 10000 it would.
    refused(NONE, () -> chain(1), y -> y.truly(0, 4000, 0), y -> y.truly(0, 4000, 1));
    refused(NONE, () -> chain(0), y -> y.truly(0, 3334, 0), y -> y.truly(0, 9999, 0), y -> y.truly(0, 9999, 1));
    refused(NONE, () -> chain(3), y -> y.truly(0, 1, 0), y -> y.truly(0, 1, 1));
    refused(NONE, () -> chain(0, 0), y -> y.truly(1, 9999, 1));
  }

  private static int next(int z) {
    return z * 1103515245 + 12345;
  }

  private static void draws() {
    holds(0, "DRAWS: z is told (1 at first); each makes it z * 1103515245 + 12345 (an int), and gives z >>> 8");
    due(fresh().count(6), 1);
    for (int z : new int[] {0, 1, -1, 2, -12345, MAX, MIN, 1234567890, -2000000000}) {
      ThirdFountain x = chain(0);
      x.seed(z);
      due(x.weather(1), (next(z) >>> 8) % 300 / 3);
      due(x.now(1), (next(z) >>> 8) % 300);
      due(x.count(6), next(z));
    }
    due(next(1), 1103527590);
    ThirdFountain x = chain(0);
    x.weather(2);
    due(x.count(6), -1770082073);
  }

  private static void weather() {
    holds(30, "n times (1 to 12) by draws: THE SPRING is the rest of a draw by 300, then an HOUR goes: cups kept in them");
    ThirdFountain x = chain(0);
    int z = 1, kept = 0;
    for (int i = 0; i < 12; i++) {
      z = next(z);
      kept += (z >>> 8) % 300 / 3;
    }
    due(x.weather(12), kept);
    due(x.now(0), 12);
    due(x.now(1), (z >>> 8) % 300);
    due(x.count(6), z);
    due(x.of(0, 4), kept);
    // No BASINS: HOURS go all the same.
    x = fresh();
    due(x.weather(12), 0);
    due(x.now(0), 12);
    due(x.count(6), z);

    holds(30, "BEYOND");
    refused(BEYOND, Sentences::rich, y -> y.weather(0), y -> y.weather(13), y -> y.weather(-1), y -> y.weather(MIN), y -> y.weather(MAX));
    refused(BEYOND, richAt(9999), y -> y.weather(0), y -> y.weather(13), y -> y.weather(MAX));

    holds(30, "STATE: HOUR would be above 9999");
    x = atHour(fresh(), 9987);
    due(x.weather(12), 0);
    due(x.now(0), 9999);
    refused(STATE, richAt(9988), y -> y.weather(12));
    refused(STATE, richAt(9999), y -> y.weather(1));
  }

  private static void wear() {
    holds(31, "n times (1 to 12) by draws: the BASIN that is the rest of a draw by how many there are gets the KIND "
        + "that is the rest of the next one by 7: cups that would be kept in an HOUR then");
    ThirdFountain x = three(), same = three();
    int z = 1;
    for (int i = 0; i < 12; i++) {
      z = next(z);
      int worn = (z >>> 8) % 3;
      z = next(z);
      same.change(worn, 0, (z >>> 8) % 7);
    }
    due(x.wear(12), same.now(6));
    for (int b = 0; b < 3; b++) due(x.of(b, 0), same.of(b, 0));
    due(x.count(6), z);
    due(x.now(0), 0);
    due(x.now(2), 0);
    x = three();
    x.wear(1);
    due(x.count(6), next(next(1)));
    // What is in the POOLS stays; a single BASIN is the one that is worn.
    x = chain(5);
    x.hours(2);
    x.wear(1);
    due(x.of(0, 0), (next(next(1)) >>> 8) % 7);
    due(x.of(0, 3), 30);
    due(atHour(chain(0), 9999).wear(12) < 0 ? 1 : 0, 0);

    holds(31, "BEYOND");
    refused(BEYOND, Sentences::rich, y -> y.wear(0), y -> y.wear(13), y -> y.wear(-1), y -> y.wear(MIN), y -> y.wear(MAX));
    refused(BEYOND, Sentences::fresh, y -> y.wear(0), y -> y.wear(13));

    holds(31, "STATE: there are none");
    refused(STATE, Sentences::fresh, y -> y.wear(1), y -> y.wear(12));
    due(fresh().count(6), 1);
  }

  private static void seed() {
    holds(32, "z becomes v: what it was");
    ThirdFountain x = fresh();
    int was = 1;
    for (int v : new int[] {0, -1, MIN, MAX, BEYOND, SIZE, 7, 7}) {
      due(x.seed(v), was);
      due(x.count(6), v);
      was = v;
    }
    due(x.status(-1), 0);
  }

  public static void main(String[] args) {
    chips();
    chipped();
    truly();
    draws();
    weather();
    wear();
    seed();
    end();
  }
}
