/** Promises 36 to 42, and what the Terms say of SPOTS and SHEETS, sentence by sentence. */
public final class SheetsTest extends Sentences {

  /** Whether (1) or not (0) the number that is written is v then: as many cups as a house gets. */
  private static void numberDue(int bits, int written, int v, int want) {
    ThirdFountain x = chain(0);
    x.spring(3 * v);
    due(paper(x, 0, bits, written).judge(0, 0) == 0 ? 1 : 0, want);
  }

  private static void terms() {
    holds(0, "SPOTS 0 to 9 hold a BASIN or nothing (at first)");
    ThirdFountain x = chain(0, 0);
    for (int spot = 0; spot < 10; spot++) {
      due(x.as(spot, 0), MISSING);
      due(x.hold(spot, spot % 2), 1);
      due(x.count(7), spot + 1);
    }
    for (int spot = 0; spot < 10; spot++) due(x.as(spot, 0), spot % 2);

    holds(0, "SHEETS 0 to 3: rows of at most 40 numbers of 8, 16 or 32 bits (told with their sign: of 8 bits 255 is -1), "
        + "or MISSING (at first)");
    for (int s = 0; s < 4; s++) {
      x = chain(0, 0);
      due(x.load(s), MISSING);
      for (int bits : new int[] {8, 16, 32}) {
        due(x.sheet(s, bits, 40), 40);
        due(x.write(s, 39, 1), 1);
        due(x.write(s, 40, 1), BEYOND);
      }
      for (int t = 0; t < 4; t++) due(x.load(t), t == s ? 0 : MISSING);
    }
    numberDue(8, 127, 127, 1);
    numberDue(8, 128, 128, 0);
    numberDue(8, 255, 255, 0);
    numberDue(16, 255, 255, 1);
    numberDue(16, 32767, 32767, 1);
    numberDue(16, 32768, 32768, 0);
    numberDue(16, 33333, 33333, 0);
    numberDue(32, 32768, 32768, 1);
    numberDue(32, 33333, 33333, 1);
  }

  private static void hold() {
    holds(36, "A SPOT holds a BASIN, or nothing (-1): 1");
    ThirdFountain x = three();
    due(x.hold(0, 2), 1);
    due(x.hold(9, 0), 1);
    due(x.hold(9, 1), 1);
    due(x.count(7), 2);
    due(x.as(0, 0), 2);
    due(x.as(9, 0), 1);
    due(x.hold(0, -1), 1);
    due(x.hold(1, -1), 1);
    due(x.count(7), 1);
    due(x.as(0, 0), MISSING);
    due(fresh().hold(0, -1), 1);
    due(full().hold(9, 9), 1);

    holds(36, "BEYOND");
    refused(BEYOND, Sentences::rich, y -> y.hold(10, 0), y -> y.hold(-1, 0), y -> y.hold(10, -1), y -> y.hold(MIN, 0),
        y -> y.hold(MAX, 0), y -> y.hold(0, 4), y -> y.hold(0, -2), y -> y.hold(0, MIN), y -> y.hold(0, MAX));
    refused(BEYOND, Sentences::fresh, y -> y.hold(0, 0));
    refused(BEYOND, Sentences::full, y -> y.hold(0, 10));
  }

  /** One BASIN of each KIND, each in the SPOT of its number. */
  private static ThirdFountain held() {
    ThirdFountain x = chain(0, 1, 2, 3, 4, 5, 6);
    for (int b = 0; b < 7; b++) x.hold(b, b);
    return x;
  }

  private static void as() {
    int[] above = {-1, 0, 0, 1, 2, 0, 5};
    holds(37, "What a SPOT holds as one of a kind (0 to 6): the number of the BASIN");
    for (int b = 0; b < 7; b++) {
      due(held().as(b, b), b);
      due(held().as(b, 0), b);
      if (b > 0) due(held().as(b, above[b]), b);
    }
    // As it is by now.
    ThirdFountain x = held();
    x.change(0, 0, 3);
    due(x.as(0, 1), 0);
    due(x.as(0, 3), 0);
    onlyAsks(SheetsTest::held, y -> y.as(6, 5), y -> y.as(0, 0));

    holds(37, "BEYOND");
    refused(BEYOND, SheetsTest::held, y -> y.as(10, 0), y -> y.as(-1, 0), y -> y.as(MIN, 0), y -> y.as(MAX, 0),
        y -> y.as(0, 7), y -> y.as(0, -1), y -> y.as(0, MIN), y -> y.as(0, MAX), y -> y.as(7, 7), y -> y.as(7, -1));
    refused(BEYOND, Sentences::fresh, y -> y.as(10, 0), y -> y.as(0, 7));

    holds(37, "MISSING: it holds nothing");
    refused(MISSING, SheetsTest::held, y -> y.as(7, 0), y -> y.as(9, 6));
    refused(MISSING, Sentences::fresh, y -> y.as(0, 0), y -> y.as(9, 6));
    x = held();
    x.hold(0, -1);
    due(x.as(0, 0), MISSING);

    holds(37, "KIND: it isn't of that kind, nor of one under it");
    for (int b = 0; b < 7; b++) {
      for (int kind = 1; kind < 7; kind++) {
        int spot = b, wanted = kind;
        if (kind != b && kind != above[b]) refused(KIND, SheetsTest::held, y -> y.as(spot, wanted));
      }
    }
    x = held();
    x.change(3, 0, 0);
    due(x.as(3, 1), KIND);
  }

  private static void sheet() {
    holds(38, "A sheet has n numbers, all 0, of 8, 16 or 32 bits; bits 0: it is MISSING: n (0 if it is MISSING)");
    ThirdFountain x = chain(0, 0, 0);
    for (int bits : new int[] {8, 16, 32}) {
      due(x.sheet(0, bits, 0), 0);
      due(x.load(0), 0);
      due(x.write(0, 0, 1), BEYOND);
      due(x.sheet(0, bits, 1), 1);
      due(x.sheet(0, bits, 40), 40);
    }
    paper(x, 0, 8, 5, 6, 7);
    due(x.load(0), 3);
    due(x.sheet(0, 8, 3), 3);
    due(x.load(0), 0);
    paper(x, 0, 8, 5, 6, 7);
    due(x.sheet(0, 8, 1), 1);
    due(x.sheet(0, 8, 3), 3);
    x.write(0, 0, 4);
    due(x.load(0), 1);
    due(x.sheet(0, 0, 5), 0);
    due(x.load(0), MISSING);
    due(x.write(0, 0, 5), MISSING);
    due(x.sheet(0, 0, 0), 0);
    due(x.sheet(0, 0, 40), 0);
    due(x.sheet(0, 16, 2), 2);
    due(x.load(0), 0);
    due(x.write(0, 1, 300), 1);

    holds(38, "BEYOND: no such sheet, other bits");
    refused(BEYOND, Sentences::rich, y -> y.sheet(4, 8, 1), y -> y.sheet(-1, 8, 1), y -> y.sheet(MIN, 8, 1), y -> y.sheet(MAX, 8, 1),
        y -> y.sheet(4, 0, 0), y -> y.sheet(4, 8, -1), y -> y.sheet(4, 8, 41));
    for (int bits : new int[] {-8, -1, 1, 4, 7, 9, 15, 17, 24, 31, 33, 40, 64, 256, MIN, MAX}) {
      refused(BEYOND, Sentences::rich, y -> y.sheet(0, bits, 1), y -> y.sheet(0, bits, -1));
    }

    holds(38, "SIZE: n is below 0 (also with bits 0)");
    for (int bits : new int[] {0, 8, 16, 32}) {
      refused(SIZE, Sentences::rich, y -> y.sheet(0, bits, -1), y -> y.sheet(0, bits, MIN), y -> y.sheet(2, bits, -1));
    }

    holds(38, "BEYOND: n is above 40 (also with bits 0)");
    for (int bits : new int[] {0, 8, 16, 32}) {
      refused(BEYOND, Sentences::rich, y -> y.sheet(0, bits, 41), y -> y.sheet(0, bits, MAX), y -> y.sheet(2, bits, 41));
    }
  }

  private static void write() {
    holds(39, "Number i of a sheet becomes v (its lowest bits): 1");
    int[] bits = {8, 16, 32};
    for (int b : bits) {
      ThirdFountain x = chain(0, 0, 0);
      x.sheet(0, b, 3);
      // 4, and anything above the lowest bits.
      due(x.write(0, 0, b == 32 ? 4 : 4 + (7 << b)), 1);
      due(x.write(0, 1, b == 32 ? 5 : 5 - (1 << b)), 1);
      due(x.write(0, 2, 1 << (b - 1)), 1);
      due(x.load(0), 2);
      due(x.of(0, 2), 4);
      due(x.of(1, 2), 5);
      due(x.write(0, 2, 9), 1);
      due(x.load(0), 3);
      due(x.write(0, 0, MIN), 1);
      due(x.write(0, 0, MAX), 1);
      due(x.write(0, 0, 0), 1);
      due(x.load(0), 0);
    }
    ThirdFountain x = chain(0);
    x.sheet(3, 8, 40);
    due(x.write(3, 39, 1), 1);
    numberDue(8, 3 + 256, 3, 1);
    numberDue(16, 300 + 65536, 300, 1);
    numberDue(16, 65536 * 9 + 32767, 32767, 1);
    numberDue(32, 65536, 0, 0);
    numberDue(16, 65536, 0, 1);
    numberDue(8, 256, 0, 1);

    holds(39, "BEYOND: no such sheet");
    refused(BEYOND, Sentences::rich, y -> y.write(4, 0, 1), y -> y.write(-1, 0, 1), y -> y.write(MIN, 0, 1), y -> y.write(MAX, 0, 1));

    holds(39, "MISSING");
    refused(MISSING, Sentences::rich, y -> y.write(2, 0, 1), y -> y.write(2, -1, 1), y -> y.write(2, 40, 1));
    refused(MISSING, Sentences::fresh, y -> y.write(0, 0, 1), y -> y.write(3, MAX, 1));

    holds(39, "BEYOND: no such number");
    refused(BEYOND, Sentences::rich, y -> y.write(0, 3, 1), y -> y.write(0, -1, 1), y -> y.write(0, MIN, 1), y -> y.write(0, MAX, 1),
        y -> y.write(1, 2, 1), y -> y.write(3, 0, 1), y -> y.write(0, 39, 1));
  }

  /** Numbers 1 to 4 on sheet 0, four times 0 on sheet 1, both of 8 bits; of 4 BASINS. */
  private static ThirdFountain two() {
    return paper(paper(chain(0, 0, 0, 0), 0, 8, 1, 2, 3, 4), 1, 8, 0, 0, 0, 0);
  }

  private static void edgesDue(ThirdFountain x, int s, int... edges) {
    due(x.load(s), edges.length);
    for (int b = 0; b < edges.length; b++) due(x.of(b, 2), edges[b]);
  }

  private static void copy() {
    holds(40, "n numbers of a sheet from one on come to another one from one on (as they all were): n");
    ThirdFountain x = two();
    due(x.copy(0, 0, 1, 0, 4), 4);
    edgesDue(x, 1, 1, 2, 3, 4);
    x = two();
    due(x.copy(0, 1, 1, 0, 3), 3);
    edgesDue(x, 1, 2, 3, 4);
    edgesDue(x, 0, 1, 2, 3, 4);
    due(x.copy(0, 3, 1, 3, 1), 1);
    edgesDue(x, 1, 2, 3, 4, 4);
    // On the very sheet, upwards, downwards and where they are.
    x = two();
    due(x.copy(0, 0, 0, 1, 3), 3);
    edgesDue(x, 0, 1, 1, 2, 3);
    x = two();
    due(x.copy(0, 1, 0, 0, 3), 3);
    edgesDue(x, 0, 2, 3, 4, 4);
    due(x.copy(0, 0, 0, 0, 4), 4);
    edgesDue(x, 0, 2, 3, 4, 4);
    // None of them, at the end too.
    allDue(0, x.copy(0, 0, 1, 0, 0), x.copy(0, 4, 1, 4, 0), x.copy(0, 4, 0, 0, 0));
    edgesDue(x, 0, 2, 3, 4, 4);
    x.sheet(2, 8, 0);
    due(x.copy(2, 0, 2, 0, 0), 0);
    x.sheet(2, 8, 40);
    x.sheet(3, 8, 40);
    due(x.copy(2, 0, 3, 0, 40), 40);
    // Of 32 bits.
    x = chain(0);
    x.spring(99999);
    paper(x, 0, 32, 7, 33333);
    x.sheet(1, 32, 1);
    due(x.copy(0, 1, 1, 0, 1), 1);
    due(x.judge(1, 0), 0);

    holds(40, "BEYOND: no such sheet (either)");
    refused(BEYOND, SheetsTest::two, y -> y.copy(4, 0, 0, 0, 1), y -> y.copy(0, 0, 4, 0, 1), y -> y.copy(-1, 0, 0, 0, 1),
        y -> y.copy(0, 0, -1, 0, 1), y -> y.copy(MIN, 0, 0, 0, 1), y -> y.copy(0, 0, MIN, 0, 1), y -> y.copy(MAX, 0, 0, 0, 1),
        y -> y.copy(0, 0, MAX, 0, 1), y -> y.copy(4, 0, 2, 0, 0), y -> y.copy(2, 0, 4, 0, 0));

    holds(40, "MISSING: one is");
    refused(MISSING, SheetsTest::two, y -> y.copy(0, 0, 2, 0, 1), y -> y.copy(2, 0, 0, 0, 1), y -> y.copy(2, 0, 3, 0, 0),
        y -> y.copy(2, 0, 2, 0, 0), y -> y.copy(0, 0, 2, 0, 9), y -> y.copy(2, -1, 0, 0, -1));

    holds(40, "KIND: they are not of as many bits");
    refused(KIND, Sentences::rich, y -> y.copy(0, 0, 1, 0, 1), y -> y.copy(1, 0, 0, 0, 1), y -> y.copy(0, 0, 3, 0, 0),
        y -> y.copy(3, 0, 1, 0, 0), y -> y.copy(0, 0, 1, 0, 9), y -> y.copy(1, -1, 0, 0, -1));

    holds(40, "BEYOND: one has not so many, or from, to or n is below 0");
    refused(BEYOND, SheetsTest::two, y -> y.copy(0, 0, 1, 0, 5), y -> y.copy(0, 1, 1, 0, 4), y -> y.copy(0, 0, 1, 1, 4),
        y -> y.copy(0, 4, 1, 0, 1), y -> y.copy(0, 0, 1, 4, 1), y -> y.copy(0, 5, 1, 0, 0), y -> y.copy(0, 0, 1, 5, 0),
        y -> y.copy(0, -1, 1, 0, 1), y -> y.copy(0, 0, 1, -1, 1), y -> y.copy(0, 0, 1, 0, -1), y -> y.copy(0, 2, 1, 2, -1),
        y -> y.copy(0, -1, 1, 0, 0), y -> y.copy(0, 0, 1, -1, 0));
    for (int v : new int[] {MIN, MAX, MAX - 1, MIN + 1}) {
      refused(BEYOND, SheetsTest::two, y -> y.copy(0, v, 1, 0, 1), y -> y.copy(0, 0, 1, v, 1), y -> y.copy(0, 0, 1, 0, v),
          y -> y.copy(0, v, 1, 0, v), y -> y.copy(0, 1, 1, v, v), y -> y.copy(0, v, 1, v, MAX), y -> y.copy(0, 4, 1, 4, v));
    }
    // One of them has so many, the other one has not.
    refused(BEYOND, () -> paper(two(), 1, 8, 0, 0), y -> y.copy(0, 0, 1, 0, 3), y -> y.copy(1, 0, 0, 0, 3),
        y -> y.copy(0, 0, 1, 3, 0), y -> y.copy(1, 3, 0, 0, 0));
  }

  private static void load() {
    holds(41, "Numbers of a sheet, from its begin on, become EDGES of BASINS 0, 1, ..: how many came");
    edgesDue(paper(chain(0, 0, 0), 0, 8, 9, 1, 5), 0, 9, 1, 5);
    ThirdFountain x = full();
    due(paper(x, 3, 32, 9, 9, 9, 9, 9, 9, 9, 9, 9, 9).load(3), 10);
    due(x.count(2), 90);

    holds(41, "It ends at the first that isn't 1 to 9, or for which there is no BASIN");
    for (int odd : new int[] {0, 10, -1, 127, -128}) {
      x = paper(chain(0, 0, 0), 0, 8, 9, odd, 5);
      due(x.load(0), 1);
      due(x.of(0, 2), 9);
      due(x.of(1, 2), 1);
      due(x.of(2, 2), 1);
      due(paper(chain(0, 0, 0), 0, 8, odd, 4, 5).load(0), 0);
    }
    due(paper(chain(0), 0, 32, 65537).load(0), 0);
    x = chain(0, 0);
    due(paper(x, 0, 8, 3, 4, 5).load(0), 2);
    due(x.count(2), 7);
    due(x.basin(0, 0), 2);
    due(x.of(2, 2), 1);
    // Fewer numbers than BASINS; no numbers; no BASINS.
    x = chain(0, 0, 0);
    due(paper(x, 0, 8, 3).load(0), 1);
    due(x.count(2), 5);
    due(paper(x, 0, 8).load(0), 0);
    due(x.count(2), 5);
    due(paper(fresh(), 0, 8, 3).load(0), 0);
    x = full();
    x.sheet(0, 8, 40);
    for (int i = 0; i < 40; i++) x.write(0, i, 2);
    due(x.load(0), 10);

    holds(41, "BEYOND: no such sheet");
    refused(BEYOND, Sentences::rich, y -> y.load(4), y -> y.load(-1), y -> y.load(MIN), y -> y.load(MAX));

    holds(41, "MISSING");
    refused(MISSING, Sentences::rich, y -> y.load(2));
    refused(MISSING, Sentences::fresh, y -> y.load(0), y -> y.load(3));
  }

  private static ThirdFountain toldCups(int... numbers) {
    return paper(chain(5, 0), 0, 16, numbers);
  }

  private static void judge() {
    holds(42, "THE READER: numbers of a sheet are cups that a house gets in the HOURS 1, 2, .. AHEAD: 0 if all are; "
        + "else 1 and the place of the first that isn't");
    due(toldCups(8, 18, 18).judge(0, 1), 0);
    due(toldCups(8, 18, 17).judge(0, 1), 3);
    due(toldCups(8, 17, 17).judge(0, 1), 2);
    due(toldCups(9, 18, 18).judge(0, 1), 1);
    due(toldCups(27, 27, 27).judge(0, 0), 0);
    due(toldCups(8).judge(0, 1), 0);
    due(toldCups().judge(0, 1), 0);
    due(toldCups(-8).judge(0, 1), 1);
    // What it has got before does not count; AHEAD begins now.
    ThirdFountain x = toldCups(18, 18);
    due(x.judge(0, 1), 1);
    x.hours(1);
    due(x.judge(0, 1), 0);
    x = chain(0);
    x.sheet(0, 8, 40);
    for (int i = 0; i < 39; i++) x.write(0, i, 27);
    due(x.judge(0, 0), 40);
    x.write(0, 39, 27);
    due(x.judge(0, 0), 0);
    onlyAsks(() -> toldCups(8, 18), y -> y.judge(0, 1), y -> y.judge(0, 0));

    holds(42, "BEYOND: no such sheet");
    refused(BEYOND, Sentences::rich, y -> y.judge(4, 0), y -> y.judge(-1, 0), y -> y.judge(MIN, 0), y -> y.judge(MAX, 0),
        y -> y.judge(4, 9));

    holds(42, "MISSING");
    refused(MISSING, Sentences::rich, y -> y.judge(2, 0), y -> y.judge(2, 4), y -> y.judge(2, -1));
    refused(MISSING, Sentences::fresh, y -> y.judge(0, 0));

    holds(42, "BEYOND: no such BASIN");
    refused(BEYOND, Sentences::rich, y -> y.judge(0, 4), y -> y.judge(0, -1), y -> y.judge(0, MIN), y -> y.judge(0, MAX));
    refused(BEYOND, () -> paper(fresh(), 0, 8), y -> y.judge(0, 0));
    refused(BEYOND, richAt(9999), y -> y.judge(0, 4));

    holds(42, "STATE: HOUR would be above 9999");
    due(atHour(rich(), 9996).judge(0, 0), 1);
    due(atHour(toldCups(18, 18), 9997).judge(0, 1), 0);
    due(atHour(toldCups(), 9999).judge(0, 1), 0);
    refused(STATE, richAt(9997), y -> y.judge(0, 0));
    refused(STATE, richAt(9999), y -> y.judge(0, 0), y -> y.judge(1, 3));
    refused(STATE, () -> atHour(toldCups(18, 18), 9998), y -> y.judge(0, 1));
  }

  public static void main(String[] args) {
    terms();
    hold();
    as();
    sheet();
    write();
    copy();
    load();
    judge();
    end();
  }
}
