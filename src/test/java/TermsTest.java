/** What the Terms say of findings, of sets and of BASINS, sentence by sentence. */
public final class TermsTest extends Sentences {

  private static void findings() {
    holds(0, "FINDINGS are answers below -1000000: LOW is -1000001; LOW BEYOND, LOW - 1 FULL, LOW - 2 KIND, LOW - 3 NONE, "
        + "LOW - 4 STATE, LOW - 5 MISSING, LOW - 6 SIZE (in longs, too)");
    due(fresh().of(0, 0), -1000001);
    due(full().basin(0, 0), -1000002);
    due(rich().copy(0, 0, 1, 0, 0), -1000003);
    due(fresh().undo(), -1000004);
    due(fresh().even(), -1000005);
    due(fresh().load(0), -1000006);
    due(fresh().sheet(0, 8, -1), -1000007);
    due(fresh().share(0, 0), -1000001L);
    due(fresh().rest(0, 0), -1000001L);
    due(tooLong().share(9, 1), -1000007L);
    due(tooLong().rest(9, 1), -1000007L);

    holds(0, "What seed() and count(6) tell, z, may be any int: that is no finding");
    ThirdFountain x = fresh();
    for (int z = BEYOND; z >= SIZE; z--) {
      x.seed(z);
      due(x.count(6), z);
      due(x.seed(z), z);
    }
    due(x.status(-1), 0);
    for (int which = 0; which < 7; which++) due(x.status(which), 0);
    // It comes by draws, too.
    x = chain(0);
    x.seed(MIN);
    x.weather(1);
    due(x.count(6), MIN * 1103515245 + 12345);
    due(x.status(-1), 0);
  }

  /** Acts of which two findings could be told: the one whose words come first is. */
  private static void order() {
    holds(0, "Each act tells its findings in the order in which they are asked (that of its words); "
        + "one that answers a finding changes nothing but status()");
    refused(BEYOND, Sentences::full, y -> y.basin(7, 0), y -> y.basin(0, 10));
    refused(BEYOND, Sentences::tooLong, y -> y.share(9, 2), y -> y.rest(9, 2), y -> y.compare(9, 10), y -> y.extreme(2));
    refused(BEYOND, Sentences::fresh, y -> y.extreme(2), y -> y.needs(0), y -> y.wear(0), y -> y.chipped(0, 3), y -> y.as(0, 7));
    refused(BEYOND, richAt(9999), y -> y.hours(101), y -> y.ahead(101, 0), y -> y.ahead(1, 7), y -> y.when(0, 0),
        y -> y.loses(0, 101), y -> y.edge(0, 61), y -> y.place(0, 1), y -> y.kindFor(4, 1), y -> y.hurt(4, 1),
        y -> y.deal(61), y -> y.law(61), y -> y.generous(61), y -> y.weather(13), y -> y.judge(0, 4));
    refused(BEYOND, () -> chain(3), y -> y.truly(0, 1, 2), y -> y.truly(1, 1, 0));
    refused(BEYOND, () -> fed(rich(), " ".repeat(112)), y -> y.feed(0, 5));
    refused(BEYOND, Sentences::rich, y -> y.sheet(4, 8, -1), y -> y.sheet(0, 7, -1), y -> y.copy(4, 0, 2, 0, 0), y -> y.judge(4, 4));
    refused(STATE, () -> atHour(tooLong(), 9999), y -> y.loses(9, 1));
    refused(STATE, () -> atHour(three(), 9900), y -> y.when(1, 99999));
    refused(STATE, () -> atHour(fresh(), 9999), y -> y.deal(1), y -> y.generous(1));
    refused(MISSING, Sentences::rich, y -> y.write(2, -1, 0), y -> y.copy(2, -1, 0, 0, 1), y -> y.judge(2, 4));
    refused(KIND, Sentences::rich, y -> y.copy(0, -1, 1, 0, 1), y -> y.copy(0, 0, 1, 0, 41));
  }

  private static void quotientsAndSets() {
    holds(0, "Quotients are cut");
    ThirdFountain x = chain(1, 0);
    x.spring(99999);
    // 39999.6 are kept by 0; of 60000, 20000 by 1.
    due(x.of(0, 6), 39999);
    due(x.of(1, 6), 20000);
    x = laid(3, -1, 1, 0, 0, 2, 0, 0, 5);
    x.spring(13);
    due(x.of(1, 5), 3);
    due(x.of(2, 5), 9);

    holds(0, "Sets are told as bits; of several that would do the least number counts, where nothing else is told");
    due(full().under(0, 1), 0b1111111110);
    due(chain(0).under(0, 1), 0);
    due(star(3, 3, 3).extreme(0), 0);
    due(star(0, 0, 0).extreme(1), 1);
    due(three().edge(0, 1), 1);
    due(star(3, 3, 3).place(2, 1), 0);
    due(chain(3).law(60), 1);
    x = three();
    x.spring(0);
    due(x.kindFor(2, 1), 0);
    due(x.law(1), 0);
    due(x.generous(1), 0);
    due(x.needs(1), three().needs(1));
  }

  private static void basins() {
    holds(0, "BASINS 0, 1, .. (at most 10), each but BASIN 0 BELOW another one, with a lesser number; "
        + "to BASIN 0 comes THE SPRING (0 to 99999 cups an hour; 81 at first)");
    ThirdFountain x = fresh();
    for (int b = 0; b < 10; b++) due(x.basin(0, b - 1), b);
    due(x.basin(0, 9), FULL);
    due(x.of(0, 5), 81);
    x.spring(99999);
    due(x.of(0, 5), 99999);
    x.spring(0);
    for (int b = 0; b < 10; b++) due(x.of(b, 5), 0);
    for (int b = 1; b < 10; b++) {
      due(x.join(b, b), BEYOND);
      due(x.join(b, 0), b - 1);
    }

    holds(0, "Each has an EDGE (1 to 9; 1 at first), a POOL (cups held; 0 at first), a STORE (cups its house has got; 0 at first); "
        + "of KINDS: 0 BASIN; 1 CHIPPED, 2 LEAKING, 5 DAMMED under BASIN; 3 HOLY under CHIPPED; 4 PIPED under LEAKING; "
        + "6 FLOODED under DAMMED");
    for (int kind = 0; kind < 7; kind++) {
      x = chain(kind);
      due(x.of(0, 2), 1);
      due(x.of(0, 3), 0);
      due(x.of(0, 4), 0);
    }
    // What each KIND is under: a row of the KINDS as which it can be had.
    int[] asBits = {0b1, 0b11, 0b101, 0b1011, 0b10101, 0b100001, 0b1100001};
    for (int kind = 0; kind < 7; kind++) {
      x = chain(kind);
      x.hold(0, 0);
      for (int as = 0; as < 7; as++) due(x.as(0, as), (asBits[kind] >> as & 1) == 1 ? 0 : KIND);
    }
  }

  /** The last of 512 calls answers as the first. */
  private static void manyCalls() {
    holds(0, "An object is used for at most 512 calls after it has been made");
    ThirdFountain x = three();
    for (int i = 4; i < 511; i++) due(x.chips(0), MISSING);
    due(x.status(5), 507);
    x = chain(0, 0, 0, 0, 0, 0, 0, 0, 0, 0);
    // 3 come to 9 by 4, 5, 7, 10, 14, 20, 29, 43 and 64.
    for (int i = 10; i < 512; i++) due(x.needs(1), 64);
  }

  public static void main(String[] args) {
    findings();
    order();
    quotientsAndSets();
    basins();
    manyCalls();
    end();
  }
}
