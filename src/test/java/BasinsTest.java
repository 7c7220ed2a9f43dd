/** Promises 1 to 8, sentence by sentence. */
public final class BasinsTest extends Sentences {

  private static void newObject() {
    holds(1, "All as at first; no BASINS; THE TAPE is empty, no image is kept");
    ThirdFountain x = fresh();
    int[] first = {0, 0, 0, 0, 81, 0, 1, 0};
    for (int what = 0; what < 8; what++) due(x.count(what), first[what]);
    int[] now = {0, 81, 0, 0, 0, 0, 0};
    for (int what = 0; what < 7; what++) due(x.now(what), now[what]);
    for (int which = -1; which < 7; which++) due(x.status(which), 0);
    due(x.text(), -1);
    due(x.wipe(), 0);
    due(x.tear(), 0);
    due(x.undo(), NONE);
    for (int b = -1; b < 11; b++) due(x.of(b, 0), BEYOND);
    for (int spot = 0; spot < 10; spot++) due(x.as(spot, 0), MISSING);
    for (int s = 0; s < 4; s++) due(x.load(s), MISSING);
    // Two objects have nothing of one another.
    rich();
    due(fresh().count(1), 0);
    due(fresh().undo(), NONE);
  }

  private static void basin() {
    holds(2, "A new BASIN BELOW another one (-1 for BASIN 0, just then): its number");
    ThirdFountain x = fresh();
    int[] below = {-1, 0, 1, 0, 3, 4, 0, 6, 7, 8};
    for (int b = 0; b < 10; b++) due(x.basin(b % 7, below[b]), b);
    for (int b = 0; b < 10; b++) {
      int[] begun = {b % 7, below[b], 1, 0, 0};
      for (int what = 0; what < 5; what++) due(x.of(b, what), begun[what]);
    }
    // A number that was given up by undo() begins anew.
    x = fresh();
    x.image();
    x = laidOn(x);
    x.undo();
    due(x.basin(2, -1), 0);
    int[] anew = {2, -1, 1, 0, 0};
    for (int what = 0; what < 5; what++) due(x.of(0, what), anew[what]);

    holds(2, "BEYOND");
    refused(BEYOND, Sentences::fresh, y -> y.basin(0, 0), y -> y.basin(0, -2), y -> y.basin(0, 1),
        y -> y.basin(0, MIN), y -> y.basin(0, MAX), y -> y.basin(-1, -1), y -> y.basin(7, -1),
        y -> y.basin(MIN, -1), y -> y.basin(MAX, -1));
    refused(BEYOND, Sentences::rich, y -> y.basin(0, -1), y -> y.basin(0, 4), y -> y.basin(0, -2),
        y -> y.basin(0, MIN), y -> y.basin(0, MAX), y -> y.basin(-1, 0), y -> y.basin(7, 3),
        y -> y.basin(MIN, 0), y -> y.basin(MAX, 0));
    refused(BEYOND, Sentences::full, y -> y.basin(0, -1), y -> y.basin(0, 10), y -> y.basin(7, 0),
        y -> y.basin(-1, 9));

    holds(2, "FULL");
    refused(FULL, Sentences::full, y -> y.basin(0, 0), y -> y.basin(6, 9));
    due(full().count(1), 10);
  }

  private static ThirdFountain laidOn(ThirdFountain x) {
    x.basin(5, -1);
    x.change(0, 2, 9);
    x.change(0, 3, 7);
    x.change(0, 4, 8);
    return x;
  }

  private static void of() {
    holds(3, "Of a BASIN: what 0 KIND, 1 what it is BELOW (-1: BASIN 0), 2 EDGE, 3 POOL, 4 STORE, "
        + "5 what would come to it in an HOUR now, 6 what it would KEEP then");
    ThirdFountain x = three();
    x.change(2, 3, 11);
    x.hours(2);
    int[] two = {1, 0, 2, 11, 28, 36, 14};
    for (int what = 0; what < 7; what++) due(x.of(2, what), two[what]);
    int[] zero = {0, -1, 1, 0, 54, 81, 27};
    for (int what = 0; what < 7; what++) due(x.of(0, what), zero[what]);
    // "now": after a change of THE SPRING, of a KIND, of an EDGE, of a POOL.
    x.spring(8);
    allDue(8, x.of(0, 5));
    due(x.of(1, 5), 2);
    due(x.of(1, 6), 0);
    x.change(0, 0, 3);
    due(x.of(2, 5), 5);
    x.change(1, 2, 6);
    due(x.of(1, 5), 6);
    x.change(0, 0, 5);
    due(x.of(1, 5), 0);
    x.change(0, 3, 30);
    due(x.of(1, 5), 4);
    onlyAsks(Sentences::rich, y -> y.of(0, 0), y -> y.of(3, 6), y -> y.of(1, 5));
    due(atHour(three(), 9999).of(2, 6), 14);

    holds(3, "BEYOND");
    refused(BEYOND, Sentences::rich, y -> y.of(4, 0), y -> y.of(-1, 0), y -> y.of(MIN, 0), y -> y.of(MAX, 0),
        y -> y.of(0, 7), y -> y.of(0, -1), y -> y.of(0, MIN), y -> y.of(0, MAX));
    refused(BEYOND, Sentences::fresh, y -> y.of(0, 0));
    refused(BEYOND, Sentences::full, y -> y.of(10, 0));
  }

  private static void change() {
    holds(4, "KIND (what 0), EDGE (2), POOL (3; 0 to 30), STORE (4; 0 to 99999999) of a BASIN becomes v: what it was");
    ThirdFountain x = three();
    int[] begun = {1, 0, 2, 0, 0}, least = {0, 0, 1, 0, 0}, most = {6, 0, 9, 30, 99999999};
    for (int what = 0; what < 5; what++) {
      if (what == 1) continue;
      due(x.change(2, what, most[what]), begun[what]);
      due(x.of(2, what), most[what]);
      due(x.change(2, what, least[what]), most[what]);
      due(x.of(2, what), least[what]);
      due(x.change(2, what, least[what]), least[what]);
    }
    for (int kind = 0; kind < 7; kind++) {
      x.change(1, 0, kind);
      due(x.of(1, 0), kind);
    }
    // It is of this one BASIN alone.
    int[] other = {0, -1, 1, 0, 0};
    for (int what = 0; what < 5; what++) due(x.of(0, what), other[what]);

    holds(4, "BEYOND");
    refused(BEYOND, Sentences::rich, y -> y.change(0, 0, -1), y -> y.change(0, 0, 7), y -> y.change(0, 2, 0),
        y -> y.change(0, 2, 10), y -> y.change(0, 3, -1), y -> y.change(0, 3, 31), y -> y.change(0, 4, -1),
        y -> y.change(0, 4, 100000000));
    for (int v : new int[] {MIN, MAX}) {
      refused(BEYOND, Sentences::rich, y -> y.change(3, 0, v), y -> y.change(3, 2, v), y -> y.change(3, 3, v),
          y -> y.change(3, 4, v), y -> y.change(0, v, 1), y -> y.change(v, 2, 1));
    }
    refused(BEYOND, Sentences::rich, y -> y.change(1, 1, 0), y -> y.change(0, -1, 0), y -> y.change(0, 5, 0),
        y -> y.change(4, 0, 0), y -> y.change(-1, 0, 0));
    refused(BEYOND, Sentences::fresh, y -> y.change(0, 0, 0));
  }

  private static void join() {
    holds(5, "A BASIN, not 0, comes BELOW another one (with a lesser number): what it was BELOW");
    ThirdFountain x = full();
    due(x.join(9, 0), 8);
    due(x.of(9, 1), 0);
    due(x.join(9, 8), 0);
    due(x.of(9, 1), 8);
    due(x.join(9, 8), 8);
    due(x.join(1, 0), 0);
    // What is BELOW the one that is joined comes with it.
    due(x.join(5, 1), 4);
    due(x.under(1, 0), 0b100100);
    due(x.steps(9), 6);

    holds(5, "BEYOND");
    refused(BEYOND, Sentences::rich, y -> y.join(0, 0), y -> y.join(0, -1), y -> y.join(2, 2), y -> y.join(2, 3),
        y -> y.join(2, -1), y -> y.join(4, 0), y -> y.join(-1, 0), y -> y.join(-1, -2), y -> y.join(2, MIN),
        y -> y.join(2, MAX), y -> y.join(MIN, 0), y -> y.join(MAX, 0));
    refused(BEYOND, Sentences::fresh, y -> y.join(0, 0), y -> y.join(1, 0));
  }

  private static void spring() {
    holds(6, "THE SPRING becomes v: what it was");
    ThirdFountain x = fresh();
    due(x.spring(0), 81);
    due(x.spring(99999), 0);
    due(x.spring(1), 99999);
    due(x.now(1), 1);

    holds(6, "BEYOND");
    refused(BEYOND, Sentences::rich, y -> y.spring(-1), y -> y.spring(100000), y -> y.spring(MIN), y -> y.spring(MAX));
  }

  private static void under() {
    holds(7, "BASINS BELOW one at once (what 0), by steps (1), as a set");
    ThirdFountain x = laid(0, -1, 1, 0, 0, 1, 0, 1, 1, 0, 0, 1, 0, 2, 1);
    int[] once = {0b01010, 0b00100, 0b10000, 0, 0};
    int[] bySteps = {0b11110, 0b10100, 0b10000, 0, 0};
    for (int b = 0; b < 5; b++) {
      due(x.under(b, 0), once[b]);
      due(x.under(b, 1), bySteps[b]);
    }
    due(full().under(0, 1), 1022);
    due(full().under(0, 0), 2);
    due(full().under(8, 1), 512);
    due(full().under(9, 1), 0);
    due(chain(0).under(0, 1), 0);

    holds(7, "BEYOND");
    refused(BEYOND, Sentences::rich, y -> y.under(4, 0), y -> y.under(-1, 0), y -> y.under(MIN, 0),
        y -> y.under(MAX, 0), y -> y.under(0, 2), y -> y.under(0, -1), y -> y.under(0, MIN), y -> y.under(0, MAX));
    refused(BEYOND, Sentences::fresh, y -> y.under(0, 0));
  }

  private static void steps() {
    holds(8, "How many steps it is BELOW BASIN 0");
    for (int b = 0; b < 10; b++) due(full().steps(b), b);
    due(star(0, 0, 0).steps(2), 1);
    ThirdFountain x = full();
    x.join(9, 0);
    due(x.steps(9), 1);

    holds(8, "BEYOND");
    refused(BEYOND, Sentences::rich, y -> y.steps(4), y -> y.steps(-1), y -> y.steps(MIN), y -> y.steps(MAX));
    refused(BEYOND, Sentences::fresh, y -> y.steps(0));
  }

  public static void main(String[] args) {
    newObject();
    basin();
    of();
    change();
    join();
    spring();
    under();
    steps();
    end();
  }
}
