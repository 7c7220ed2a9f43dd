/** Promises 15 to 19, and what the Terms say of LEAKS, KEEPS, HOLDS and HOURS, sentence by sentence. */
public final class HoursTest extends Sentences {

  /** What now(what) tells of one BASIN to which c cups come. */
  private static int nowOf(int kind, int c, int what) {
    ThirdFountain x = chain(kind);
    x.spring(c);
    return x.now(what);
  }

  private static void leaksDue(int kind, int c, int want) {
    due(nowOf(kind, c, 5), want);
  }

  private static void keepsDue(int kind, int c, int want) {
    due(nowOf(kind, c, 6), want);
  }

  private static void leaksAndKeeps() {
    holds(0, "LEAKS (of c cups that come): BASIN: 0");
    for (int kind : new int[] {0, 1, 3, 5, 6}) leaksDue(kind, 99999, 0);

    holds(0, "LEAKING: c by 10");
    int[] come = {0, 9, 10, 14, 19, 20, 99999}, leak = {0, 0, 1, 1, 1, 2, 9999};
    for (int i = 0; i < come.length; i++) leaksDue(2, come[i], leak[i]);

    holds(0, "PIPED: twice what a LEAKING one does");
    for (int i = 0; i < come.length; i++) leaksDue(4, come[i], 2 * leak[i]);

    holds(0, "KEEPS (of c cups, LEAKS off): BASIN: c by 3");
    int[] cups = {0, 2, 3, 5, 6, 99999}, third = {0, 0, 1, 1, 2, 33333};
    for (int kind : new int[] {0, 5, 6}) {
      for (int i = 0; i < cups.length; i++) keepsDue(kind, cups[i], third[i]);
    }
    keepsDue(2, 9, 3);
    keepsDue(2, 12, 3);
    keepsDue(2, 33, 10);
    keepsDue(4, 9, 3);
    keepsDue(4, 10, 2);
    keepsDue(4, 33, 9);
    keepsDue(4, 99999, 26667);

    holds(0, "CHIPPED: twice c, by 5");
    int[] chipped = {0, 0, 0, 1, 1, 2, 2, 2, 3, 3, 4};
    for (int c = 0; c <= 10; c++) keepsDue(1, c, chipped[c]);
    keepsDue(1, 99999, 39999);

    holds(0, "HOLY: 0");
    keepsDue(3, 0, 0);
    keepsDue(3, 99999, 0);
  }

  /** What is in the POOL an HOUR after it was p, c cups coming; and what went on then. */
  private static void heldDue(int kind, int p, int c, int pool, int on) {
    ThirdFountain x = chain(kind);
    x.spring(c);
    x.change(0, 3, p);
    due(x.now(4), on);
    x.hours(1);
    due(x.of(0, 3), pool);
    due(x.now(3), pool);
  }

  private static void pools() {
    holds(0, "(Others as the KIND above.) HOLDS (of c cups that would go on, the POOL being p): BASIN: 0");
    heldDue(0, 0, 30, 0, 20);
    heldDue(0, 12, 30, 12, 20);
    heldDue(1, 29, 30, 29, 18);
    heldDue(2, 0, 30, 0, 18);
    heldDue(3, 5, 30, 5, 30);
    heldDue(4, 0, 30, 0, 16);

    holds(0, "DAMMED: what is wanting for the POOL to be 30, c at most");
    heldDue(5, 0, 0, 0, 0);
    heldDue(5, 0, 1, 1, 0);
    heldDue(5, 0, 43, 29, 0);
    heldDue(5, 0, 44, 30, 0);
    heldDue(5, 0, 46, 30, 1);
    heldDue(5, 20, 8, 26, 0);
    heldDue(5, 29, 0, 29, 0);
    heldDue(5, 29, 1, 30, 0);
    heldDue(5, 29, 2, 30, 1);
    heldDue(5, 30, 99999, 30, 66666);
    heldDue(5, 0, 99999, 30, 66636);

    holds(0, "FLOODED: as a DAMMED one, but 0 if c is above 100");
    heldDue(6, 0, 43, 29, 0);
    heldDue(6, 20, 8, 26, 0);
    heldDue(6, 0, 101, 30, 38);
    heldDue(6, 0, 149, 30, 70);
    heldDue(6, 0, 150, 30, 70);
    heldDue(6, 29, 150, 30, 99);
    heldDue(6, 0, 151, 0, 101);
    heldDue(6, 29, 151, 29, 101);
    heldDue(6, 30, 150, 30, 100);
    heldDue(6, 0, 99999, 0, 66666);
  }

  private static void anHour() {
    holds(0, "BASINS BELOW one get of what goes on, all EDGES of those BELOW it together being e: c times their own EDGE, "
        + "by e, each; the rest (of all, without any BELOW it) RUNS OFF there");
    ThirdFountain x = laid(3, -1, 9, 3, 0, 1, 3, 0, 2, 3, 0, 4);
    x.spring(10);
    int[] come = {10, 1, 2, 5};
    for (int b = 0; b < 4; b++) due(x.of(b, 5), come[b]);
    due(x.now(4), 2 + 1 + 2 + 5);
    x = laid(3, -1, 1, 3, 0, 9, 3, 0, 9, 3, 0, 9, 3, 0, 9, 3, 0, 9, 3, 0, 9, 3, 0, 9, 3, 0, 9, 3, 0, 9);
    x.spring(99999);
    due(x.of(9, 5), 11111);
    x.spring(8);
    due(x.of(9, 5), 0);
    due(x.now(4), 8);
    due(nowOf(3, 99999, 4), 99999);
    due(nowOf(3, 0, 4), 0);

    holds(0, "AN HOUR: by numbers, to each BASIN comes what was told (to 0 THE SPRING): it LEAKS, KEEPS (its STORE is more), "
        + "HOLDS (its POOL is more), what is left goes on");
    x = laid(2, -1, 1, 5, 0, 1);
    x.spring(100);
    x.change(0, 4, 1000);
    due(x.hours(1), 50);
    due(x.of(0, 4), 1030);
    due(x.of(1, 4), 20);
    due(x.of(1, 3), 30);
    due(x.hours(1), 50);
    due(x.of(0, 4), 1060);
    due(x.of(1, 3), 30);

    holds(0, "HOUR is one more (0 at first; 9999 at most)");
    x = fresh();
    due(x.now(0), 0);
    due(x.hours(1), 0);
    due(x.now(0), 1);
    due(atHour(x, 9998).hours(1), 0);
    due(x.now(0), 9999);
    due(x.hours(1), STATE);

    holds(0, "AHEAD: n HOURS go on with all as it is; nothing changes");
    onlyAsks(Sentences::rich, y -> y.ahead(100, 0), y -> y.when(0, 999), y -> y.loses(0, 100), y -> y.edge(1, 60),
        y -> y.place(3, 60), y -> y.kindFor(1, 60), y -> y.hurt(0, 60), y -> y.law(60), y -> y.generous(60), y -> y.judge(0, 0));
    due(rich().ahead(3, 0), rich().hours(3));
  }

  private static void hours() {
    holds(15, "n HOURS go (1 to 100): cups kept in them");
    ThirdFountain x = three();
    due(x.hours(1), 47);
    due(x.count(0), 1);
    due(x.hours(100), 4700);
    due(x.count(0), 101);
    due(x.of(2, 4), 101 * 14);
    x = chain(5, 0);
    x.spring(20);
    // 14 go on from 0, of these 14, 14 and 2 are held; then 1 KEEPS 4.
    due(x.hours(3), 18 + 4);
    due(x.of(0, 3), 30);
    due(x.of(1, 4), 4);
    x = chain(0);
    x.change(0, 4, 99999999);
    x.spring(99999);
    due(x.hours(100), 3333300);
    due(x.of(0, 4), 103333299);
    due(fresh().hours(100), 0);

    holds(15, "BEYOND");
    refused(BEYOND, Sentences::rich, y -> y.hours(0), y -> y.hours(101), y -> y.hours(-1), y -> y.hours(MIN), y -> y.hours(MAX));
    refused(BEYOND, richAt(9999), y -> y.hours(0), y -> y.hours(101), y -> y.hours(MAX));

    holds(15, "STATE: HOUR would be above 9999");
    due(atHour(rich(), 9899).hours(100) > 0 ? 1 : 0, 1);
    refused(STATE, richAt(9900), y -> y.hours(100));
    refused(STATE, richAt(9999), y -> y.hours(1), y -> y.hours(100));
    x = atHour(fresh(), 9900);
    due(x.hours(99), 0);
    due(x.now(0), 9999);
  }

  private static void now() {
    holds(16, "What 0 HOUR, 1 THE SPRING, 2 STORES of all, 3 POOLS of all, 4 what would RUN OFF in an HOUR now, "
        + "5 what would LEAK then, 6 what would be kept then");
    ThirdFountain x = laid(2, -1, 1, 5, 0, 1);
    x.spring(100);
    int[] first = {0, 100, 0, 0, 10, 10, 50};
    for (int what = 0; what < 7; what++) due(x.now(what), first[what]);
    x.hours(2);
    x.change(0, 3, 9);
    int[] then = {2, 100, 100, 39, 40, 10, 50};
    for (int what = 0; what < 7; what++) due(x.now(what), then[what]);
    due(three().now(4), 34);
    due(star(0, 0, 0).now(4), 18 + 18);
    // In BASINS above, too, it RUNS OFF: 55 go on from 82, 27 to each.
    x = star(0, 0, 0);
    x.spring(82);
    due(x.now(4), 1 + 18 + 18);
    x.spring(0);
    allDue(0, x.now(4), x.now(5), x.now(6));
    x = full();
    for (int b = 0; b < 10; b++) x.change(b, 4, 99999999);
    due(x.now(2), 999999990);
    onlyAsks(Sentences::rich, y -> y.now(0), y -> y.now(4), y -> y.now(5), y -> y.now(6));
    due(atHour(three(), 9999).now(6), 47);

    holds(16, "BEYOND");
    refused(BEYOND, Sentences::rich, y -> y.now(7), y -> y.now(-1), y -> y.now(MIN), y -> y.now(MAX));
    refused(BEYOND, Sentences::fresh, y -> y.now(7));
  }

  private static void ahead() {
    holds(17, "AHEAD n HOURS (0 to 100): what 0 cups kept in them, 1 RUN OFF in them, 2 leaked in them, "
        + "3 + BASIN cups its house gets in them");
    ThirdFountain x = laid(2, -1, 1, 5, 0, 1);
    x.spring(100);
    x.change(0, 4, 7);
    int[] one = {50, 10, 10, 30, 20}, two = {100, 50, 20, 60, 40}, many = {5000, 3970, 1000, 3000, 2000};
    for (int what = 0; what < 5; what++) {
      due(x.ahead(0, what), 0);
      due(x.ahead(1, what), one[what]);
      due(x.ahead(2, what), two[what]);
      due(x.ahead(100, what), many[what]);
    }
    allDue(0, x.count(0), x.count(3));
    due(x.now(2), 7);
    allDue(0, fresh().ahead(100, 0), fresh().ahead(0, 2));
    due(full().ahead(1, 12) < 0 ? 1 : 0, 0);

    holds(17, "BEYOND: no such BASIN, too");
    refused(BEYOND, Sentences::rich, y -> y.ahead(1, 7), y -> y.ahead(0, 7), y -> y.ahead(1, -1), y -> y.ahead(1, MIN),
        y -> y.ahead(1, MIN + 2), y -> y.ahead(1, MAX), y -> y.ahead(-1, 0), y -> y.ahead(101, 0), y -> y.ahead(MIN, 0),
        y -> y.ahead(MAX, 0));
    refused(BEYOND, Sentences::fresh, y -> y.ahead(1, 3), y -> y.ahead(0, 3));
    refused(BEYOND, Sentences::full, y -> y.ahead(1, 13));
    refused(BEYOND, richAt(9999), y -> y.ahead(101, 0), y -> y.ahead(1, 7), y -> y.ahead(MAX, 0));

    holds(17, "STATE: HOUR would be above 9999");
    due(atHour(three(), 9900).ahead(99, 3), 99 * 27);
    refused(STATE, richAt(9900), y -> y.ahead(100, 0), y -> y.ahead(100, 6));
    refused(STATE, richAt(9999), y -> y.ahead(1, 0));
    allDue(0, atHour(three(), 9999).ahead(0, 0), atHour(three(), 9999).ahead(0, 5));
  }

  private static void when() {
    holds(18, "Behind how many HOURS (0 to 100) AHEAD a house's STORE is v (1 to 99999) or more first");
    ThirdFountain x = three();
    due(x.when(1, 1), 1);
    due(x.when(1, 6), 1);
    due(x.when(1, 7), 2);
    due(x.when(1, 594), 99);
    due(x.when(1, 595), 100);
    due(x.when(1, 600), 100);
    x.change(1, 4, 7);
    due(x.when(1, 7), 0);
    due(x.when(1, 6), 0);
    due(x.when(1, 8), 1);
    x.change(1, 4, 99999);
    due(x.when(1, 99999), 0);
    x.change(1, 4, 99998);
    due(x.when(1, 99999), 1);
    // 0 KEEPS 2 of 8, and 6 are held, 5 times; then they come to 1, which KEEPS 2.
    x = chain(5, 0);
    x.spring(8);
    allDue(6, x.when(1, 1), x.when(1, 2));
    due(x.when(1, 3), 7);

    holds(18, "BEYOND");
    refused(BEYOND, Sentences::rich, y -> y.when(4, 1), y -> y.when(-1, 1), y -> y.when(MIN, 1), y -> y.when(MAX, 1),
        y -> y.when(0, 0), y -> y.when(0, -1), y -> y.when(0, 100000), y -> y.when(0, MIN), y -> y.when(0, MAX));
    refused(BEYOND, Sentences::fresh, y -> y.when(0, 1));
    refused(BEYOND, richAt(9999), y -> y.when(4, 1), y -> y.when(0, 0), y -> y.when(0, 100000));

    holds(18, "STATE: HOUR is above 9899");
    due(atHour(three(), 9899).when(0, 99999), 0);
    due(atHour(three(), 9899).when(1, 6 * 9899 + 600), 100);
    refused(STATE, richAt(9900), y -> y.when(0, 1), y -> y.when(0, 99999));
    refused(STATE, richAt(9999), y -> y.when(0, 1));

    holds(18, "NONE");
    refused(NONE, Sentences::three, y -> y.when(1, 601), y -> y.when(1, 99999));
    refused(NONE, () -> chain(3), y -> y.when(0, 1));
  }

  private static void loses() {
    holds(19, "Cups that a house gets less (below 0: more) in n HOURS (1 to 100) AHEAD than its SHARE of what "
        + "THE SPRING gives in them (cut)");
    ThirdFountain x = three();
    due(x.loses(0, 1), 0);
    // 8 by 45 of 81 are 14.4, of 810 are 144.
    due(x.loses(2, 1), 0);
    due(x.loses(2, 2), 0);
    due(x.loses(2, 3), 1);
    due(x.loses(2, 10), 4);
    due(x.loses(2, 100), 40);
    // More: nothing LEAKS of 9 cups. 3 by 10 of 9 are 2.7, that is 2.
    x = chain(2);
    x.spring(9);
    due(x.loses(0, 1), 2 - 3);
    due(x.loses(0, 10), 27 - 30);
    due(x.loses(0, 100), 270 - 300);
    due(chain(3).loses(0, 100), 0);
    x = chain(5, 0);
    due(x.loses(1, 1), 18 - 8);
    due(x.loses(1, 2), 36 - 26);
    x.spring(0);
    due(x.loses(0, 100), 0);
    x.spring(99999);
    due(x.loses(0, 100), 0);
    // What it has got before does not count.
    x.change(0, 4, 99999999);
    due(x.loses(0, 100), 0);
    // 99999 * 100 times a line of 9 digits.
    x = laid(4, -1, 1, 4, 0, 4, 4, 1, 8, 4, 1, 1, 4, 2, 9, 4, 4, 7, 4, 4, 6, 4, 5, 1, 4, 7, 4, 4, 7, 1);
    x.spring(99999);
    due(x.loses(8, 100), 9999900L * 234881024L / 99952734375L - x.ahead(100, 11));

    holds(19, "BEYOND");
    refused(BEYOND, Sentences::rich, y -> y.loses(4, 1), y -> y.loses(-1, 1), y -> y.loses(MIN, 1), y -> y.loses(MAX, 1),
        y -> y.loses(0, 0), y -> y.loses(0, 101), y -> y.loses(0, -1), y -> y.loses(0, MIN), y -> y.loses(0, MAX));
    refused(BEYOND, Sentences::fresh, y -> y.loses(0, 1));
    refused(BEYOND, richAt(9999), y -> y.loses(4, 1), y -> y.loses(0, 0), y -> y.loses(0, 101));
    refused(BEYOND, Sentences::tooLong, y -> y.loses(9, 0), y -> y.loses(9, 101), y -> y.loses(10, 1));

    holds(19, "STATE: HOUR would be above 9999");
    due(atHour(three(), 9899).loses(0, 100), 0);
    refused(STATE, richAt(9900), y -> y.loses(0, 100));
    refused(STATE, richAt(9999), y -> y.loses(0, 1));
    refused(STATE, () -> atHour(tooLong(), 9999), y -> y.loses(9, 1));

    holds(19, "SIZE");
    refused(SIZE, Sentences::tooLong, y -> y.loses(9, 1), y -> y.loses(9, 100));
    due(tooLong().loses(7, 1), 0);
  }

  public static void main(String[] args) {
    leaksAndKeeps();
    pools();
    anHour();
    hours();
    now();
    ahead();
    when();
    loses();
    end();
  }
}
