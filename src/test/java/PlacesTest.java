import java.util.function.IntFunction;

/** Promises 20 to 26, sentence by sentence. */
public final class PlacesTest extends Sentences {

  /** Each n is 1 to 60. */
  private static void countsAsked(IntFunction<Act> withN) {
    refused(BEYOND, Sentences::rich, withN.apply(0), withN.apply(61), withN.apply(-1), withN.apply(MIN), withN.apply(MAX));
    refused(BEYOND, richAt(9999), withN.apply(0), withN.apply(61), withN.apply(MAX));
  }

  private static void basinsAsked(IntFunction<Act> withBasin) {
    refused(BEYOND, Sentences::rich, withBasin.apply(4), withBasin.apply(-1), withBasin.apply(MIN), withBasin.apply(MAX));
    refused(BEYOND, Sentences::fresh, withBasin.apply(0));
    refused(BEYOND, Sentences::full, withBasin.apply(10));
    refused(BEYOND, richAt(9999), withBasin.apply(4), withBasin.apply(-1));
  }

  /** HOUR comes to 9999 at most. */
  private static void hoursAsked(IntFunction<Act> withN) {
    due(withN.apply(60).of(atHour(rich(), 9939)) == STATE ? 1 : 0, 0);
    due(withN.apply(1).of(atHour(rich(), 9998)) == STATE ? 1 : 0, 0);
    refused(STATE, richAt(9940), withN.apply(60));
    refused(STATE, richAt(9999), withN.apply(1), withN.apply(60));
  }

  private static ThirdFountain withSpring(ThirdFountain x, int spring) {
    x.spring(spring);
    return x;
  }

  private static void edge() {
    holds(20, "The EDGE (1 to 9) with which a BASIN gets most cups in n HOURS (1 to 60) AHEAD");
    ThirdFountain x = three();
    // 54 go on from 0: 7 by 9 of them are 42, of which 1 KEEPS 14; 9 by 11 are 44, and it KEEPS 14 too.
    due(x.edge(1, 1), 7);
    due(x.edge(1, 60), 7);
    due(withSpring(three(), 10).edge(1, 1), 2);
    due(withSpring(laid(3, -1, 1, 3, 0, 1, 3, 0, 9), 99999).edge(1, 1), 1);
    due(withSpring(laid(3, -1, 1, 0, 0, 1, 3, 0, 9), 99999).edge(1, 60), 9);
    // Of several the least: nothing is got by any EDGE, or as much by each.
    due(withSpring(three(), 3).edge(1, 1), 1);
    due(three().edge(0, 60), 1);
    due(chain(0, 0).edge(1, 5), 1);
    x = chain(0, 0);
    x.change(1, 2, 9);
    due(x.edge(1, 1), 1);
    due(x.of(1, 2), 9);
    // A PIPED one KEEPS 3 of 9 cups, but 2 of 10: 8 come by EDGE 6, 9 by 7 and 8, 10 by 9.
    due(withSpring(laid(3, -1, 1, 4, 0, 1, 3, 0, 9), 21).edge(1, 1), 7);
    onlyAsks(Sentences::rich, y -> y.edge(0, 1), y -> y.edge(3, 60));

    holds(20, "BEYOND");
    basinsAsked(b -> y -> y.edge(b, 1));
    countsAsked(n -> y -> y.edge(1, n));

    holds(20, "STATE: HOUR would be above 9999");
    hoursAsked(n -> y -> y.edge(1, n));
  }

  private static void place() {
    holds(21, "What a BASIN, not 0, should be BELOW (a lesser number) to get most cups in n HOURS (1 to 60) AHEAD");
    ThirdFountain x = laid(0, -1, 1, 3, 0, 1, 0, 0, 1, 0, 2, 1);
    due(x.place(3, 1), 1);
    due(x.place(2, 1), 1);
    due(x.place(1, 1), 0);
    due(x.place(3, 60), 1);
    due(x.of(3, 1), 2);
    due(withSpring(laid(0, -1, 1, 5, 0, 1, 0, 0, 1), 27).place(2, 1), 0);
    due(laid(3, -1, 1, 3, 0, 1, 0, 1, 1).place(2, 60), 1);
    due(laid(0, -1, 1, 0, 0, 1, 0, 0, 1).place(2, 60), 1);
    // Of several the least: nothing is got anywhere, or as much everywhere.
    due(withSpring(full(), 0).place(9, 60), 0);
    due(laid(3, -1, 1, 3, 0, 1, 3, 0, 1, 3, 2, 1).place(3, 1), 0);
    // BELOW the last lesser number: nothing else is there.
    due(laid(0, -1, 1, 0, 0, 9, 0, 0, 9, 3, 0, 9, 0, 0, 1).place(4, 1), 3);
    onlyAsks(Sentences::rich, y -> y.place(1, 1), y -> y.place(3, 60));

    holds(21, "BEYOND");
    basinsAsked(b -> y -> y.place(b, 1));
    refused(BEYOND, Sentences::rich, y -> y.place(0, 1));
    refused(BEYOND, richAt(9999), y -> y.place(0, 1));
    countsAsked(n -> y -> y.place(1, n));

    holds(21, "STATE");
    hoursAsked(n -> y -> y.place(1, n));
  }

  private static void kindFor() {
    holds(22, "The KIND as which a BASIN gets most cups in n HOURS (1 to 60) AHEAD");
    ThirdFountain x = three();
    due(x.kindFor(0, 1), 1);
    due(x.kindFor(2, 60), 1);
    due(x.kindFor(1, 1), 1);
    due(x.of(0, 0), 0);
    due(x.of(1, 0), 0);
    // Of several the least: 1 of 3 is kept by each but a HOLY one, and 0 of 2 by all.
    due(withSpring(three(), 3).kindFor(0, 1), 0);
    due(withSpring(three(), 2).kindFor(0, 60), 0);
    due(withSpring(chain(1), 5).kindFor(0, 1), 1);
    due(withSpring(chain(1), 4).kindFor(0, 1), 0);
    due(withSpring(chain(6), 4).kindFor(0, 1), 0);
    onlyAsks(Sentences::rich, y -> y.kindFor(0, 1), y -> y.kindFor(3, 60));

    holds(22, "BEYOND");
    basinsAsked(b -> y -> y.kindFor(b, 1));
    countsAsked(n -> y -> y.kindFor(1, n));

    holds(22, "STATE");
    hoursAsked(n -> y -> y.kindFor(1, n));
  }

  private static void hurt() {
    holds(23, "BASINS that get fewer cups in n HOURS (1 to 60) AHEAD, if one is CHIPPED, as a set");
    due(three().hurt(0, 1), 0b110);
    due(three().hurt(1, 60), 0);
    due(chain(0, 0, 0).hurt(1, 1), 0b100);
    due(chain(0, 0, 0).hurt(0, 60), 0b110);
    // A HOLY one becomes CHIPPED, for one CHIPPED nothing changes.
    due(chain(3, 0, 0).hurt(0, 1), 0b110);
    due(chain(1, 0, 0).hurt(0, 1), 0);
    due(withSpring(chain(0, 0, 0), 3).hurt(0, 60), 0);
    // 1 KEEPS 10 an HOUR then; else 1 in the first, and 11 when the POOL is full.
    due(withSpring(chain(5, 0), 50).hurt(0, 1), 0);
    due(withSpring(chain(5, 0), 50).hurt(0, 10), 0);
    due(withSpring(chain(5, 0), 50).hurt(0, 11), 0b10);
    due(withSpring(chain(0, 0, 0, 0, 0, 0, 0, 0, 0, 0), 99999).hurt(0, 60), 1022);
    onlyAsks(Sentences::rich, y -> y.hurt(0, 1), y -> y.hurt(3, 60));

    holds(23, "BEYOND");
    basinsAsked(b -> y -> y.hurt(b, 1));
    countsAsked(n -> y -> y.hurt(1, n));

    holds(23, "STATE");
    hoursAsked(n -> y -> y.hurt(1, n));
  }

  private static ThirdFountain dealers() {
    return withSpring(laid(5, -1, 2, 0, 0, 6, 2, 1, 5, 1, 0, 3), 341);
  }

  private static void deal() {
    holds(24, "Two BASINS, not 0, that, changing what they are BELOW with one another (it must be a lesser number for each), "
        + "both get more cups in n HOURS (1 to 60) AHEAD: 10 times the lesser, and the other one; the first so");
    due(dealers().deal(1), 23);
    due(dealers().of(2, 1), 1);
    // 5: 27 * 9 / 10 or 54 * 9 / 17 come; 6: 54 * 1 / 9 or 27 * 1 / 2.
    due(laid(3, -1, 1, 3, 0, 1, 3, 0, 2, 0, 1, 1, 0, 2, 8, 0, 1, 9, 0, 2, 1).deal(1), 56);
    due(laid(3, -1, 1, 3, 0, 1, 3, 0, 2, 0, 1, 1, 0, 2, 8, 0, 1, 9, 0, 2, 1).deal(60), 56);
    // The same, but what the last one is BELOW has a greater number than the third.
    due(laid(3, -1, 1, 3, 0, 1, 0, 1, 9, 3, 0, 2, 0, 1, 1, 0, 3, 8, 0, 3, 1).deal(1), NONE);
    // The first of 26, 35 and 56; of 25, 34 and 36.
    due(withSpring(laid(3, -1, 7, 0, 0, 5, 1, 1, 4, 0, 1, 1, 3, 3, 4, 6, 2, 7, 5, 0, 1, 4, 0, 7), 370).deal(1), 26);
    due(withSpring(laid(3, -1, 5, 0, 0, 9, 4, 1, 8, 6, 2, 8, 4, 0, 2, 2, 0, 5, 2, 0, 2), 292).deal(1), 25);
    // In one HOUR none, in two these.
    ThirdFountain x = withSpring(laid(6, -1, 8, 5, 0, 6, 6, 0, 1, 2, 1, 8), 177);
    due(x.deal(1), NONE);
    due(x.deal(2), 23);
    onlyAsks(PlacesTest::dealers, y -> y.deal(1));

    holds(24, "BEYOND");
    countsAsked(n -> y -> y.deal(n));

    holds(24, "STATE");
    hoursAsked(n -> y -> y.deal(n));
    refused(STATE, () -> atHour(fresh(), 9999), y -> y.deal(1));
    refused(STATE, () -> atHour(three(), 9999), y -> y.deal(1));

    holds(24, "NONE");
    refused(NONE, Sentences::fresh, y -> y.deal(1), y -> y.deal(60));
    refused(NONE, () -> chain(0), y -> y.deal(1));
    refused(NONE, () -> chain(0, 0), y -> y.deal(1));
    refused(NONE, Sentences::three, y -> y.deal(1), y -> y.deal(60));
    refused(NONE, Sentences::full, y -> y.deal(60));
    refused(NONE, () -> withSpring(dealers(), 0), y -> y.deal(60));
  }

  private static void law() {
    holds(25, "The KIND which, all being of it, keeps most cups in n HOURS (1 to 60) AHEAD");
    ThirdFountain x = three();
    due(x.law(1), 1);
    due(x.law(60), 1);
    due(x.of(2, 0), 1);
    due(x.of(0, 0), 0);
    due(chain(0).law(60), 1);
    // Of several the least: nothing is kept, or as much.
    due(withSpring(three(), 2).law(60), 0);
    due(withSpring(full(), 4).law(1), 0);
    due(fresh().law(60), 0);
    // CHIPPED ones KEEP 7 of 18 and then nothing of 2 each; BASINS 6, and 1 of 3 each.
    due(withSpring(laid(3, -1, 1, 0, 0, 1, 0, 0, 1, 0, 0, 1, 0, 0, 1), 18).law(1), 0);
    onlyAsks(Sentences::rich, y -> y.law(1), y -> y.law(60));
    onlyAsks(Sentences::fresh, y -> y.law(1));

    holds(25, "BEYOND");
    countsAsked(n -> y -> y.law(n));

    holds(25, "STATE");
    hoursAsked(n -> y -> y.law(n));
    refused(STATE, () -> atHour(fresh(), 9940), y -> y.law(60));
    due(atHour(fresh(), 9939).law(60), 0);
  }

  private static void generous() {
    holds(26, "The BASIN of which, were it HOLY, most others would get more cups in n HOURS (1 to 60) AHEAD");
    ThirdFountain x = laid(0, -1, 1, 0, 0, 1, 0, 1, 1, 0, 0, 1);
    due(x.generous(1), 0);
    due(x.generous(60), 0);
    due(x.of(0, 0), 0);
    due(laid(3, -1, 1, 0, 0, 1, 0, 1, 1, 0, 2, 1).generous(1), 1);
    due(laid(3, -1, 1, 0, 0, 1, 0, 0, 1, 0, 2, 1).generous(1), 2);
    // Of several the least, though there are no others that get more.
    due(chain(3, 3).generous(60), 0);
    due(chain(0, 3).generous(1), 0);
    due(chain(0).generous(1), 0);
    due(withSpring(chain(0, 0, 0), 2).generous(60), 0);
    due(laid(3, -1, 1, 0, 0, 1, 0, 0, 1, 0, 1, 1, 0, 2, 1).generous(1), 1);
    onlyAsks(Sentences::rich, y -> y.generous(1), y -> y.generous(60));

    holds(26, "BEYOND");
    countsAsked(n -> y -> y.generous(n));
    refused(BEYOND, Sentences::fresh, y -> y.generous(0), y -> y.generous(61));

    holds(26, "STATE");
    hoursAsked(n -> y -> y.generous(n));
    refused(STATE, () -> atHour(fresh(), 9999), y -> y.generous(1));

    holds(26, "NONE: there are none");
    refused(NONE, Sentences::fresh, y -> y.generous(1), y -> y.generous(60));
  }

  private static void tenBasins() {
    holds(0, "AHEAD: n HOURS go on with all as it is; nothing changes");
    onlyAsks(Sentences::full, y -> y.edge(9, 60), y -> y.place(9, 60), y -> y.kindFor(9, 60), y -> y.hurt(9, 60),
        y -> y.law(60), y -> y.generous(60));
    due(full().generous(60), 0);
    due(full().hurt(0, 60), 0b110);
  }

  public static void main(String[] args) {
    tenBasins();
    edge();
    place();
    kindFor();
    hurt();
    deal();
    law();
    generous();
    end();
  }
}
