/** Promises 9 to 14, and what the Terms say of a SHARE, sentence by sentence. */
public final class SharesTest extends Sentences {

  private static void partDue(ThirdFountain x, int basin, long above, long below) {
    due(x.share(basin, 0), above);
    due(x.share(basin, 1), below);
  }

  private static void restDue(ThirdFountain x, int basin, long above, long below) {
    due(x.rest(basin, 0), above);
    due(x.rest(basin, 1), below);
  }

  /** A line just within the limit, that of 8 and 9; 100000000000 itself would want 5 ^ 11, which 10 BASINS don't bring. */
  private static ThirdFountain justFits() {
    return laid(4, -1, 1, 4, 0, 4, 4, 1, 8, 4, 1, 1, 4, 2, 9, 4, 4, 7, 4, 4, 6, 4, 5, 1, 4, 7, 4, 4, 7, 1);
  }

  /** What 8 KEEPS is 67108864 by 100731853125; what is left there fits, and all of 9. */
  private static ThirdFountain justTooLong() {
    return laid(4, -1, 1, 4, 0, 8, 4, 0, 9, 4, 1, 5, 4, 1, 4, 4, 3, 1, 4, 5, 8, 4, 5, 9, 4, 6, 8, 4, 6, 9);
  }

  /** 9 KEEPS 268435456 by 279810703125, and 134217728 by 93270234375 goes on from it. */
  private static ThirdFountain keepsTooLong() {
    return laid(4, -1, 1, 4, 0, 6, 4, 1, 8, 4, 1, 9, 4, 2, 8, 4, 2, 9, 4, 4, 8, 4, 6, 8, 4, 6, 9, 1, 7, 3);
  }

  private static void terms() {
    holds(0, "to BASIN 0 comes 1 / 1; of what comes a tenth LEAKS (LEAKING; PIPED: a fifth; others nothing), "
        + "of what is left a third is kept (CHIPPED: two fifths, HOLY: nothing), nothing is held, "
        + "what is left then goes on, times the own EDGE by e, to each BELOW");
    long[][] kept = {{1, 3}, {2, 5}, {3, 10}, {0, 1}, {4, 15}, {1, 3}, {1, 3}};
    long[][] on = {{2, 3}, {3, 5}, {3, 5}, {1, 1}, {8, 15}, {2, 3}, {2, 3}};
    for (int kind = 0; kind < 7; kind++) {
      partDue(chain(kind), 0, kept[kind][0], kept[kind][1]);
      restDue(chain(kind), 0, on[kind][0], on[kind][1]);
    }
    // Without cups: neither THE SPRING, nor a POOL, nor HOURS count.
    ThirdFountain x = chain(5, 0);
    x.spring(0);
    partDue(x, 1, 2, 9);
    x.change(0, 3, 30);
    partDue(x, 1, 2, 9);
    // What is BELOW another one does not count for e.
    x = laid(3, -1, 9, 3, 0, 3, 0, 0, 5, 0, 1, 7);
    partDue(x, 2, 5, 24);
    partDue(x, 3, 1, 8);

    holds(0, "Each fraction on the way (what comes, what is left by leaking, what is kept, what goes on) "
        + "is brought to lowest terms (0 / 1: nothing); SIZE, if above or below the line is more than 100000000000 then");
    partDue(chain(3, 0), 0, 0, 1);
    partDue(laid(3, -1, 1, 3, 0, 6, 3, 0, 3), 1, 0, 1);
    restDue(laid(3, -1, 1, 3, 0, 6, 3, 0, 3), 1, 2, 3);
    partDue(justFits(), 8, 234881024L, 99952734375L);
    partDue(justFits(), 9, 58720256L, 99952734375L);
    restDue(justFits(), 8, 469762048L, 99952734375L);
    allDue(SIZE, justTooLong().share(8, 0), justTooLong().share(8, 1), justTooLong().rest(8, 0));
    partDue(justTooLong(), 9, 8388608L, 11192428125L);
    // Kept is too long, what goes on would not be: it is on the way all the same.
    allDue(SIZE, keepsTooLong().share(9, 0), keepsTooLong().rest(9, 0), keepsTooLong().rest(9, 1));
    // What is left by leaking is too long already, though a HOLY one BELOW would keep nothing.
    x = tooLong();
    allDue(SIZE, x.share(9, 1), x.rest(9, 1));
    x.change(9, 0, 3);
    partDue(x, 9, 0, 1);
    restDue(x, 9, 134217728L, 63423759375L);
    // Before it is brought to lowest terms a line may be longer: 3 / 3, 6 / 6 and so on are 1 / 1.
    x = laid(3, -1, 1, 3, 0, 9, 3, 1, 9, 3, 2, 9, 3, 3, 9, 3, 4, 9, 3, 5, 9, 3, 6, 9, 3, 7, 9, 1, 8, 9);
    partDue(x, 9, 2, 5);
    restDue(x, 9, 3, 5);
  }

  private static void share() {
    holds(9, "Above (what 0) and below (1) the line of the SHARE of a BASIN");
    ThirdFountain x = three();
    partDue(x, 0, 1, 3);
    partDue(x, 1, 2, 27);
    partDue(x, 2, 8, 45);
    partDue(chain(1, 1), 1, 6, 25);
    onlyAsks(Sentences::rich, y -> y.share(0, 0), y -> y.share(3, 1));

    holds(9, "BEYOND");
    refused(BEYOND, Sentences::rich, y -> y.share(4, 0), y -> y.share(-1, 0), y -> y.share(MIN, 0),
        y -> y.share(MAX, 0), y -> y.share(0, 2), y -> y.share(0, -1), y -> y.share(0, MIN), y -> y.share(0, MAX));
    refused(BEYOND, Sentences::fresh, y -> y.share(0, 0));
    refused(BEYOND, Sentences::tooLong, y -> y.share(9, 2), y -> y.share(10, 0));

    holds(9, "SIZE");
    refused(SIZE, Sentences::tooLong, y -> y.share(9, 0), y -> y.share(9, 1));
    refused(SIZE, SharesTest::justTooLong, y -> y.share(8, 0), y -> y.share(8, 1));
    // It is of the BASIN that is asked for, and of those that it is BELOW, alone.
    partDue(tooLong(), 7, 67108864L, 63423759375L);
    partDue(tooLong(), 8, 8388608L, 7047084375L);
  }

  private static void rest() {
    holds(10, "goes on beneath a BASIN without others BELOW it (0 / 1 for one with)");
    ThirdFountain x = three();
    restDue(x, 0, 0, 1);
    restDue(x, 1, 4, 27);
    restDue(x, 2, 4, 15);
    restDue(chain(3, 3), 0, 0, 1);
    restDue(chain(3, 3), 1, 1, 1);
    x.join(2, 1);
    restDue(x, 1, 0, 1);
    onlyAsks(Sentences::rich, y -> y.rest(0, 0), y -> y.rest(3, 1));

    holds(10, "BEYOND");
    refused(BEYOND, Sentences::rich, y -> y.rest(4, 0), y -> y.rest(-1, 0), y -> y.rest(MIN, 0), y -> y.rest(MAX, 0),
        y -> y.rest(0, 2), y -> y.rest(0, -1), y -> y.rest(0, MIN), y -> y.rest(0, MAX), y -> y.rest(3, 2));
    refused(BEYOND, Sentences::fresh, y -> y.rest(0, 0));
    refused(BEYOND, Sentences::tooLong, y -> y.rest(9, 2), y -> y.rest(9, -1), y -> y.rest(10, 0));

    holds(10, "SIZE");
    refused(SIZE, Sentences::tooLong, y -> y.rest(9, 0), y -> y.rest(9, 1));
    refused(SIZE, SharesTest::justTooLong, y -> y.rest(8, 0), y -> y.rest(8, 1));
    restDue(tooLong(), 8, 16777216L, 7047084375L);
    restDue(tooLong(), 7, 0, 1);
  }

  private static void compare() {
    holds(11, "Whether the SHARE of one is greater (1), as great (0), less (-1) than that of another one");
    ThirdFountain x = three();
    due(x.compare(0, 1), 1);
    due(x.compare(1, 0), -1);
    due(x.compare(1, 2), -1);
    due(x.compare(2, 2), 0);
    due(star(0, 0, 0).compare(1, 2), 0);
    due(chain(3, 3).compare(0, 1), 0);
    due(chain(3, 0).compare(0, 1), -1);
    due(chain(3, 0).compare(1, 0), 1);
    // 2 by 5 and 3 by 10; as great by another way: 1 by 3.
    due(chain(1).compare(0, 0), 0);
    due(laid(3, -1, 1, 1, 0, 1, 2, 0, 1).compare(1, 2), 1);
    due(laid(0, -1, 1, 3, 0, 1, 0, 0, 1, 3, 1, 1, 0, 3, 1).compare(4, 2), 0);
    // Crosswise these would be more than a long.
    due(justFits().compare(8, 9), 1);
    due(justFits().compare(9, 8), -1);
    due(justFits().compare(9, 9), 0);
    // 1.00024 to 1.
    x = laid(4, -1, 1, 3, 0, 2, 4, 0, 1, 1, 1, 6, 4, 3, 8, 4, 3, 1, 4, 4, 8, 1, 4, 5, 4, 6, 2, 4, 6, 5);
    due(x.compare(5, 9), -1);
    due(x.compare(9, 5), 1);
    onlyAsks(Sentences::rich, y -> y.compare(0, 3), y -> y.compare(1, 1));

    holds(11, "BEYOND");
    refused(BEYOND, Sentences::rich, y -> y.compare(0, 4), y -> y.compare(4, 0), y -> y.compare(-1, 0),
        y -> y.compare(0, -1), y -> y.compare(MIN, 0), y -> y.compare(0, MIN), y -> y.compare(MAX, 0),
        y -> y.compare(0, MAX));
    refused(BEYOND, Sentences::fresh, y -> y.compare(0, 0));
    refused(BEYOND, Sentences::tooLong, y -> y.compare(9, 10), y -> y.compare(10, 9));

    holds(11, "SIZE");
    refused(SIZE, Sentences::tooLong, y -> y.compare(0, 9), y -> y.compare(9, 0), y -> y.compare(9, 9));
    due(tooLong().compare(7, 8), -1);
    due(tooLong().compare(6, 7), 1);
  }

  private static void extreme() {
    holds(12, "The BASIN with the greatest (what 0), least (1) SHARE");
    due(three().extreme(0), 0);
    due(three().extreme(1), 1);
    due(chain(3, 0).extreme(0), 1);
    // Of several the least number.
    due(star(3, 0, 1, 1, 3).extreme(0), 2);
    due(star(3, 0, 1, 1, 3).extreme(1), 0);
    due(star(0, 3, 3).extreme(1), 1);
    due(chain(3, 3).extreme(0), 0);
    due(chain(0).extreme(0), 0);
    due(chain(0).extreme(1), 0);
    due(full().extreme(0), 0);
    due(justFits().extreme(1), 9);
    onlyAsks(Sentences::rich, y -> y.extreme(0), y -> y.extreme(1));

    holds(12, "BEYOND");
    refused(BEYOND, Sentences::rich, y -> y.extreme(2), y -> y.extreme(-1), y -> y.extreme(MIN), y -> y.extreme(MAX));
    refused(BEYOND, Sentences::fresh, y -> y.extreme(2), y -> y.extreme(-1));
    refused(BEYOND, Sentences::tooLong, y -> y.extreme(2));

    holds(12, "NONE: there are none");
    refused(NONE, Sentences::fresh, y -> y.extreme(0), y -> y.extreme(1));

    holds(12, "SIZE");
    refused(SIZE, Sentences::tooLong, y -> y.extreme(0), y -> y.extreme(1));
    refused(SIZE, SharesTest::justTooLong, y -> y.extreme(0), y -> y.extreme(1));
  }

  private static void needs() {
    holds(13, "The least SPRING (1 to 99999) with which, all POOLS being 30, each KEEPS at least v cups (1 to 99) in an HOUR");
    due(chain(0).needs(1), 3);
    due(chain(0).needs(99), 297);
    due(chain(1).needs(1), 3);
    due(chain(1).needs(2), 5);
    due(chain(0, 0).needs(1), 4);
    due(chain(4).needs(3), 9);
    due(chain(4).needs(4), 14);
    // 20 go on from 29: 10 to 1, which leak 2; 21 from 31: 11, which leak 2, too.
    due(laid(0, -1, 1, 4, 0, 8, 0, 0, 7).needs(3), 31);
    // All POOLS being 30, whatever they are.
    ThirdFountain x = chain(5, 0, 6);
    due(x.needs(20), 133);
    x.change(0, 3, 30);
    x.change(2, 3, 12);
    due(x.needs(20), 133);
    due(x.of(0, 3), 30);
    due(x.of(2, 3), 12);
    due(laid(1, -1, 6, 0, 0, 6, 0, 1, 8, 0, 2, 5, 0, 3, 5, 0, 2, 6, 1, 4, 1, 0, 0, 8, 4, 1, 3, 0, 4, 7).needs(84), 99999);
    onlyAsks(Sentences::three, y -> y.needs(1), y -> y.needs(99));
    onlyAsks(() -> chain(5, 6), y -> y.needs(1));

    holds(13, "BEYOND");
    refused(BEYOND, Sentences::rich, y -> y.needs(0), y -> y.needs(100), y -> y.needs(-1), y -> y.needs(MIN), y -> y.needs(MAX));
    refused(BEYOND, Sentences::fresh, y -> y.needs(0), y -> y.needs(100));

    holds(13, "STATE: there are no BASINS");
    refused(STATE, Sentences::fresh, y -> y.needs(1), y -> y.needs(99));

    holds(13, "NONE");
    refused(NONE, () -> chain(3), y -> y.needs(1), y -> y.needs(99));
    refused(NONE, () -> chain(0, 3), y -> y.needs(1));
    // With 100000 each would keep 94.
    refused(NONE, () -> laid(0, -1, 5, 4, 0, 2, 4, 1, 2, 0, 1, 8, 2, 3, 7, 4, 3, 1, 2, 1, 4, 0, 5, 3, 0, 1, 4, 4, 5, 3),
        y -> y.needs(94), y -> y.needs(99));
  }

  private static void even() {
    holds(14, "The least SPRING (1 to 9999) with which, POOLS as they are, nothing RUNS OFF in an HOUR "
        + "but beneath BASINS without others BELOW them");
    due(chain(0).even(), 1);
    due(star(0, 0, 0).even(), 2);
    due(three().even(), 4);
    ThirdFountain x = laid(5, -1, 1, 0, 0, 1, 0, 0, 1);
    due(x.even(), 1);
    x.change(0, 3, 30);
    due(x.even(), 2);
    x.change(0, 3, 29);
    due(x.even(), 1);
    due(x.of(0, 3), 29);
    due(laid(1, -1, 2, 0, 0, 7, 1, 1, 4, 2, 1, 2, 1, 3, 4, 0, 0, 5, 4, 5, 2, 4, 6, 3, 4, 6, 2, 2, 3, 9).even(), 9999);
    onlyAsks(Sentences::rich, y -> y.even());

    holds(14, "STATE: there are no BASINS");
    refused(STATE, Sentences::fresh, y -> y.even());

    holds(14, "NONE");
    // With 10000 nothing would.
    refused(NONE, () -> laid(0, -1, 3, 0, 0, 7, 1, 1, 4, 0, 2, 2, 2, 1, 6, 0, 3, 8, 2, 5, 5, 0, 2, 9, 0, 3, 2, 1, 5, 2),
        y -> y.even());
  }

  public static void main(String[] args) {
    terms();
    share();
    rest();
    compare();
    extreme();
    needs();
    even();
    end();
  }
}
