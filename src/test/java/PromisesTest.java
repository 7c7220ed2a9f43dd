/** For each promise of the document: ordinary inputs, the edges that it names, and wrong inputs. */
public final class PromisesTest {
  private static final int BEYOND = -1000001, FULL = -1000002, KIND = -1000003, NONE = -1000004;
  private static final int STATE = -1000005, MISSING = -1000006, SIZE = -1000007;

  private static int promise = 0;
  private static int row = 0;
  private static int wrong = 0;

  private static void at(int number) {
    promise = number;
    row = 0;
  }

  private static void due(long got, long want) {
    row++;
    if (got != want) {
      wrong++;
      System.out.println("promise " + promise + ", row " + row + ": answered " + got + ", due is " + want);
    }
  }

  private static void allDue(long want, long... got) {
    for (long one : got) due(one, want);
  }

  // ---- fountains to begin with

  private static ThirdFountain fresh() {
    return new ThirdFountain();
  }

  /** BASINS of these KINDS, each BELOW the one before. */
  private static ThirdFountain chain(int... kinds) {
    ThirdFountain x = fresh();
    for (int b = 0; b < kinds.length; b++) x.basin(kinds[b], b - 1);
    return x;
  }

  /** BASIN 0, and all others of these KINDS BELOW it. */
  private static ThirdFountain star(int... kinds) {
    ThirdFountain x = fresh();
    for (int b = 0; b < kinds.length; b++) x.basin(kinds[b], b == 0 ? -1 : 0);
    return x;
  }

  /** 81 come to 0: 27 kept, 54 go on; 1 gets 18, keeps 6; 2 (CHIPPED, EDGE 2) gets 36, keeps 14. */
  private static ThirdFountain three() {
    ThirdFountain x = star(0, 0, 1);
    x.change(2, 2, 2);
    return x;
  }

  private static ThirdFountain atHour(ThirdFountain x, int hour) {
    for (int left = hour; left > 0; left -= 100) x.hours(Math.min(left, 100));
    return x;
  }

  private static ThirdFountain fed(ThirdFountain x, String text) {
    for (int i = 0; i < text.length(); i++) x.feed(text.charAt(i), 1);
    return x;
  }

  private static int read(ThirdFountain x, String text) {
    return fed(x, text).text();
  }

  private static ThirdFountain told(String text) {
    ThirdFountain x = fresh();
    read(x, text);
    return x;
  }

  private static void paper(ThirdFountain x, int s, int bits, int... numbers) {
    x.sheet(s, bits, numbers.length);
    for (int i = 0; i < numbers.length; i++) x.write(s, i, numbers[i]);
  }

  // ---- basins

  private static void basins() {
    at(1);
    ThirdFountain x = fresh();
    int[] first = {0, 0, 0, 0, 81, 0, 1, 0};
    for (int what = 0; what < 8; what++) due(x.count(what), first[what]);
    due(x.undo(), NONE);
    due(x.tear(), 0);
    for (int spot = 0; spot < 10; spot++) due(x.as(spot, 0), MISSING);
    for (int s = 0; s < 4; s++) due(x.load(s), MISSING);
    due(x.status(-1), 15);
    due(fresh().status(-1), 0);

    at(2);
    x = fresh();
    allDue(BEYOND, x.basin(0, 0), x.basin(0, -2), x.basin(-1, -1), x.basin(7, -1));
    due(x.basin(6, -1), 0);
    allDue(BEYOND, x.basin(0, -1), x.basin(0, 1), x.basin(7, 0));
    for (int b = 1; b < 10; b++) due(x.basin(b % 7, b - 1), b);
    due(x.basin(0, 9), FULL);
    allDue(BEYOND, x.basin(0, 10), x.basin(0, -1), x.basin(7, 0), x.basin(-1, 0));
    due(x.count(1), 10);
    due(x.of(1, 2), 1);

    at(3);
    x = three();
    int[] two = {1, 0, 2, 0, 0, 36, 14};
    for (int what = 0; what < 7; what++) due(x.of(2, what), two[what]);
    due(x.of(0, 1), -1);
    due(x.of(0, 5), 81);
    due(x.of(0, 6), 27);
    due(x.of(1, 5), 18);
    x.hours(2);
    due(x.of(2, 4), 28);
    allDue(BEYOND, x.of(3, 0), x.of(-1, 0), x.of(0, 7), x.of(0, -1));
    due(chain(2).of(0, 6), 24);
    due(chain(4, 0).of(1, 5), 65 - 21);
    due(chain(3, 0).of(1, 5), 81);
    x = chain(5, 0);
    due(x.of(1, 5), 24);
    x.hours(1);
    due(x.of(0, 3), 30);
    due(x.of(1, 5), 54);
    x = chain(6, 0);
    x.spring(150);
    due(x.of(1, 5), 70);
    x.spring(151);
    due(x.of(1, 5), 101);

    at(4);
    x = three();
    due(x.change(1, 0, 6), 0);
    due(x.of(1, 0), 6);
    due(x.change(1, 2, 9), 1);
    due(x.change(1, 2, 1), 9);
    due(x.change(1, 3, 30), 0);
    due(x.change(1, 3, 0), 30);
    due(x.change(1, 4, 99999999), 0);
    due(x.change(1, 4, 0), 99999999);
    allDue(BEYOND, x.change(1, 0, 7), x.change(1, 0, -1), x.change(1, 2, 0), x.change(1, 2, 10));
    allDue(BEYOND, x.change(1, 3, 31), x.change(1, 3, -1), x.change(1, 4, -1), x.change(1, 4, 100000000));
    allDue(BEYOND, x.change(1, 1, 0), x.change(1, 5, 0), x.change(1, -1, 0), x.change(3, 0, 0));
    allDue(BEYOND, x.change(-1, 0, 0), fresh().change(0, 0, 0));
    due(x.of(1, 0), 6);

    at(5);
    x = chain(0, 0, 0, 0);
    due(x.join(3, 0), 2);
    due(x.of(3, 1), 0);
    due(x.join(3, 2), 0);
    allDue(BEYOND, x.join(0, 0), x.join(0, -1), x.join(2, 2), x.join(2, 3), x.join(2, -1), x.join(4, 0));
    due(x.of(2, 1), 1);

    at(6);
    x = fresh();
    due(x.spring(0), 81);
    due(x.spring(99999), 0);
    allDue(BEYOND, x.spring(100000), x.spring(-1));
    due(x.now(1), 99999);

    at(7);
    x = told("basin;basin below 0;basin below 1;basin below 0;basin below 2");
    due(x.under(0, 0), 10);
    due(x.under(0, 1), 30);
    due(x.under(1, 0), 4);
    due(x.under(1, 1), 20);
    due(x.under(4, 1), 0);
    allDue(BEYOND, x.under(5, 0), x.under(-1, 0), x.under(0, 2), x.under(0, -1));

    at(8);
    due(x.steps(0), 0);
    due(x.steps(3), 1);
    due(x.steps(4), 3);
    allDue(BEYOND, x.steps(5), x.steps(-1));
    due(chain(0, 0, 0, 0, 0, 0, 0, 0, 0, 0).steps(9), 9);
  }

  // ---- shares

  private static void partDue(ThirdFountain x, int basin, long above, long below) {
    due(x.share(basin, 0), above);
    due(x.share(basin, 1), below);
  }

  private static void restDue(ThirdFountain x, int basin, long above, long below) {
    due(x.rest(basin, 0), above);
    due(x.rest(basin, 1), below);
  }

  /** PIPED pairs: what is left in BASIN 9 is 2 ^ 29 by 15 ^ 5 * 17 ^ 4 * 5, too large. */
  private static ThirdFountain tooLong() {
    ThirdFountain x = told("piped;piped below 0 edge 8;piped below 0 edge 9");
    read(x, "piped below 1 edge 8;piped below 1 edge 9;piped below 3 edge 8");
    read(x, "piped below 3 edge 9;piped below 5 edge 8;piped below 5 edge 9;piped below 7");
    return x;
  }

  private static void shares() {
    at(9);
    ThirdFountain x = three();
    partDue(x, 0, 1, 3);
    partDue(x, 1, 2, 27);
    partDue(x, 2, 8, 45);
    partDue(chain(2), 0, 3, 10);
    partDue(chain(3), 0, 0, 1);
    partDue(chain(4), 0, 4, 15);
    partDue(chain(5), 0, 1, 3);
    partDue(chain(6, 0), 1, 2, 9);
    partDue(chain(3, 1), 1, 2, 5);
    partDue(chain(1, 3), 1, 0, 1);
    partDue(chain(1, 1), 1, 6, 25);
    allDue(BEYOND, x.share(3, 0), x.share(-1, 0), x.share(0, 2), x.share(0, -1));
    x = tooLong();
    allDue(SIZE, x.share(9, 0), x.share(9, 1));
    partDue(x, 7, 1 << 26, 15L * 15 * 15 * 15 * 15 * 17 * 17 * 17 * 17);
    due(x.change(9, 0, 3), 4);
    due(x.share(9, 0), 0);
    allDue(BEYOND, x.share(10, 0));
    due(x.status(6), 2);

    at(10);
    x = three();
    restDue(x, 0, 0, 1);
    restDue(x, 1, 4, 27);
    restDue(x, 2, 4, 15);
    restDue(chain(3), 0, 1, 1);
    restDue(chain(4), 0, 8, 15);
    restDue(chain(2), 0, 3, 5);
    restDue(chain(5), 0, 2, 3);
    allDue(BEYOND, x.rest(3, 0), x.rest(-1, 0), x.rest(0, 2), x.rest(0, -1));
    x = tooLong();
    allDue(SIZE, x.rest(9, 0), x.rest(9, 1));
    restDue(x, 7, 0, 1);

    at(11);
    x = three();
    due(x.compare(0, 1), 1);
    due(x.compare(1, 2), -1);
    due(x.compare(2, 2), 0);
    due(star(0, 0, 0).compare(1, 2), 0);
    due(chain(3, 3).compare(0, 1), 0);
    due(chain(3, 0).compare(0, 1), -1);
    due(chain(3, 0).compare(1, 0), 1);
    allDue(BEYOND, x.compare(0, 3), x.compare(3, 0), x.compare(-1, 0), x.compare(0, -1));
    x = tooLong();
    allDue(SIZE, x.compare(0, 9), x.compare(9, 0), x.compare(9, 9));
    due(x.compare(6, 7), 1);
    due(x.compare(7, 8), -1);

    at(12);
    x = three();
    due(x.extreme(0), 0);
    due(x.extreme(1), 1);
    due(star(3, 0, 1, 1, 3).extreme(0), 2);
    due(star(3, 0, 1, 1, 3).extreme(1), 0);
    allDue(BEYOND, x.extreme(2), x.extreme(-1), fresh().extreme(2));
    due(fresh().extreme(0), NONE);
    due(tooLong().extreme(0), SIZE);
    due(tooLong().extreme(1), SIZE);

    at(13);
    due(chain(0).needs(1), 3);
    due(chain(0).needs(99), 297);
    due(chain(1).needs(2), 5);
    due(chain(0, 0).needs(1), 4);
    due(chain(5, 0).needs(20), 89);
    due(chain(4).needs(3), 9);
    due(chain(4).needs(4), 14);
    // 20 go on from 29: 10 to 1, which leak 2; 21 from 31: 11, which leak 2, too.
    due(told("basin;piped below 0 edge 8;basin below 0 edge 7").needs(3), 31);
    due(chain(3).needs(1), NONE);
    due(told("basin;holy below 0").needs(1), NONE);
    x = told("basin;basin below 0 edge 1");
    for (int b = 2; b < 10; b++) read(x, "basin below 0 edge 9");
    due(x.needs(99), 32521);
    x.join(2, 1);
    x.join(3, 1);
    due(x.needs(99), 73424);
    x.join(4, 2);
    x.join(5, 4);
    due(x.needs(99), NONE);
    allDue(BEYOND, x.needs(0), x.needs(100), fresh().needs(0));
    due(fresh().needs(1), STATE);
    due(x.now(1), 81);

    at(14);
    due(three().even(), 4);
    due(chain(0).even(), 1);
    due(star(0, 0, 0).even(), 2);
    x = told("dammed;basin below 0;basin below 0");
    due(x.even(), 1);
    x.change(0, 3, 29);
    due(x.even(), 1);
    x.change(0, 3, 30);
    due(x.even(), 2);
    x = told("basin;basin below 0 edge 7;basin below 0 edge 3;basin below 1 edge 2");
    read(x, "basin below 1 edge 9;basin below 2 edge 9;basin below 2 edge 8");
    due(x.even(), 3569);
    read(x, "basin below 3 edge 2;basin below 3 edge 9");
    due(x.even(), NONE);
    due(fresh().even(), STATE);
    due(x.now(1), 81);
  }

  // ---- hours

  private static void hours() {
    at(15);
    ThirdFountain x = three();
    due(x.hours(1), 47);
    due(x.hours(100), 4700);
    due(x.of(2, 4), 101 * 14);
    due(x.count(0), 101);
    allDue(BEYOND, x.hours(0), x.hours(101), x.hours(-1));
    x = atHour(fresh(), 9899);
    due(x.hours(100), 0);
    due(x.hours(1), STATE);
    due(x.hours(101), BEYOND);
    due(x.count(0), 9999);
    x = chain(5);
    x.hours(2);
    due(x.of(0, 3), 30);
    x = chain(5);
    x.spring(20);
    due(x.hours(3), 18);
    due(x.of(0, 3), 30);

    at(16);
    x = told("leaking;dammed below 0;spring 100");
    int[] first = {0, 100, 0, 0, 10, 10, 50};
    for (int what = 0; what < 7; what++) due(x.now(what), first[what]);
    x.hours(2);
    int[] then = {2, 100, 100, 30, 40, 10, 50};
    for (int what = 0; what < 7; what++) due(x.now(what), then[what]);
    allDue(BEYOND, x.now(7), x.now(-1));
    due(three().now(4), 34);
    due(star(0, 0, 0).now(4), 18 + 18);

    at(17);
    x = told("leaking;dammed below 0;spring 100");
    due(x.ahead(2, 0), 100);
    due(x.ahead(2, 1), 50);
    due(x.ahead(2, 2), 20);
    due(x.ahead(2, 3), 60);
    due(x.ahead(2, 4), 40);
    allDue(0, x.ahead(0, 0), x.ahead(0, 1), x.ahead(0, 2), x.ahead(0, 3));
    allDue(0, x.count(0), x.count(3), x.now(2));
    allDue(BEYOND, x.ahead(2, 5), x.ahead(2, -1), x.ahead(-1, 0), x.ahead(101, 0), fresh().ahead(1, 3));
    atHour(x, 9900);
    due(x.ahead(99, 0), 99 * 50);
    due(x.ahead(100, 0), STATE);
    due(x.ahead(100, 5), BEYOND);

    at(18);
    x = three();
    due(x.when(1, 6), 1);
    due(x.when(1, 7), 2);
    due(x.when(1, 600), 100);
    due(x.when(1, 601), NONE);
    x.change(1, 4, 7);
    due(x.when(1, 7), 0);
    due(x.when(1, 8), 1);
    allDue(BEYOND, x.when(3, 1), x.when(-1, 1), x.when(0, 0), x.when(0, 100000));
    atHour(x, 9899);
    due(x.when(0, 99999), 0);
    x.hours(1);
    due(x.when(0, 1), STATE);
    due(x.when(3, 1), BEYOND);

    at(19);
    x = three();
    due(x.loses(0, 1), 0);
    due(x.loses(2, 1), 0);
    due(x.loses(2, 10), 4);
    due(x.loses(2, 100), 40);
    x.spring(19);
    due(x.loses(1, 1), 0);
    x = chain(2);
    x.spring(9);
    due(x.loses(0, 1), 2 - 3);
    due(x.loses(0, 10), 27 - 30);
    due(chain(3).loses(0, 100), 0);
    x = chain(5, 0);
    due(x.loses(1, 1), 18 - 8);
    allDue(BEYOND, x.loses(2, 1), x.loses(-1, 1), x.loses(0, 0), x.loses(0, 101));
    atHour(x, 9900);
    due(x.loses(0, 99), 0);
    due(x.loses(0, 100), STATE);
    due(tooLong().loses(9, 1), SIZE);
    due(atHour(tooLong(), 9999).loses(9, 1), STATE);
  }

  // ---- edges, places

  /** What these acts ask first, for a BASIN and n, or for n alone. */
  private static void places() {
    at(20);
    ThirdFountain x = three();
    due(x.edge(1, 1), 7);
    due(x.edge(0, 60), 1);
    x.spring(3);
    due(x.edge(1, 1), 1);
    x.spring(10);
    due(x.edge(1, 1), 2);
    due(x.of(1, 2), 1);
    due(chain(0, 0).edge(1, 5), 1);
    allDue(BEYOND, x.edge(3, 1), x.edge(-1, 1), x.edge(0, 0), x.edge(0, 61));
    due(atHour(three(), 9940).edge(0, 60), STATE);
    due(atHour(three(), 9939).edge(0, 60), 1);

    at(21);
    x = told("basin;holy below 0;basin below 0;basin below 2");
    due(x.place(3, 1), 1);
    due(x.place(2, 1), 1);
    due(x.place(1, 1), 0);
    due(x.of(3, 1), 2);
    due(told("basin;dammed below 0;basin below 0;spring 27").place(2, 1), 0);
    due(told("holy;holy below 0;basin below 1").place(2, 60), 1);
    due(told("basin;basin below 0;basin below 0").place(2, 60), 1);
    allDue(BEYOND, x.place(0, 1), x.place(4, 1), x.place(-1, 1), x.place(1, 0), x.place(1, 61));
    due(atHour(told("basin;basin below 0"), 9999).place(1, 1), STATE);

    at(22);
    x = three();
    due(x.kindFor(0, 1), 1);
    due(x.kindFor(2, 60), 1);
    x.spring(3);
    due(x.kindFor(0, 1), 0);
    x.spring(2);
    due(x.kindFor(0, 60), 0);
    due(x.of(0, 0), 0);
    allDue(BEYOND, x.kindFor(3, 1), x.kindFor(-1, 1), x.kindFor(0, 0), x.kindFor(0, 61));
    due(atHour(x, 9999).kindFor(0, 1), STATE);

    at(23);
    x = three();
    due(x.hurt(0, 1), 6);
    due(x.hurt(1, 60), 0);
    due(chain(0, 0, 0).hurt(1, 1), 4);
    due(chain(3, 0, 0).hurt(0, 1), 6);
    due(chain(1, 0, 0).hurt(0, 1), 0);
    due(x.of(0, 0), 0);
    allDue(BEYOND, x.hurt(3, 1), x.hurt(-1, 1), x.hurt(0, 0), x.hurt(0, 61));
    due(atHour(x, 9999).hurt(0, 1), STATE);

    at(24);
    // 5: 27 * 9 / 10 or 54 * 9 / 17 come; 6: 54 * 1 / 9 or 27 * 1 / 2.
    x = told("holy;holy below 0;holy below 0 edge 2;basin below 1;basin below 2 edge 8");
    read(x, "basin below 1 edge 9;basin below 2");
    due(x.deal(1), 56);
    due(x.deal(60), 56);
    due(x.of(5, 1), 1);
    // The same, but what the last one is BELOW has a greater number than the third.
    x = told("holy;holy below 0;basin below 1 edge 9;holy below 0 edge 2;basin below 1");
    read(x, "basin below 3 edge 8;basin below 3");
    due(x.deal(1), NONE);
    due(three().deal(60), NONE);
    due(fresh().deal(1), NONE);
    allDue(BEYOND, fresh().deal(0), fresh().deal(61), atHour(fresh(), 9999).deal(0));
    due(atHour(fresh(), 9999).deal(1), STATE);

    at(25);
    due(three().law(1), 1);
    due(chain(0).law(60), 1);
    x = three();
    x.spring(2);
    due(x.law(60), 0);
    due(x.of(2, 0), 1);
    due(fresh().law(60), 0);
    allDue(BEYOND, x.law(0), x.law(61));
    due(atHour(x, 9940).law(60), STATE);
    x = chain(0, 0, 0, 0, 0, 0, 0, 0, 0, 0);
    x.spring(4);
    due(x.law(1), 0);

    at(26);
    x = told("basin;basin below 0;basin below 1;basin below 0");
    due(x.generous(1), 0);
    due(told("holy;basin below 0;basin below 1;basin below 2").generous(1), 1);
    due(chain(3, 3).generous(60), 0);
    due(x.of(0, 0), 0);
    allDue(BEYOND, x.generous(0), x.generous(61), fresh().generous(0));
    due(fresh().generous(1), NONE);
    due(atHour(x, 9999).generous(1), STATE);
    due(atHour(fresh(), 9999).generous(1), STATE);
  }

  // ---- what is short, draws

  private static void shorts() {
    at(27);
    ThirdFountain x = three();
    paper(x, 0, 16, 27, 6, 14);
    due(x.chips(0), 1);
    paper(x, 0, 16, 27, 6);
    due(x.chips(0), 2);
    paper(x, 0, 16, 27, 6, 14, 1000);
    due(x.chips(0), 1);
    paper(x, 0, 16, 28);
    due(x.chips(0), 0);
    paper(x, 0, 16);
    due(x.chips(0), 8);
    due(x.of(2, 0), 1);
    allDue(BEYOND, x.chips(4), x.chips(-1));
    due(x.chips(1), MISSING);
    x = fresh();
    x.sheet(0, 8, 3);
    due(x.chips(0), 1);
    x = chain(6, 3);
    paper(x, 0, 32, 27, 18);
    due(x.chips(0), 1);

    at(28);
    x = three();
    paper(x, 0, 16, 27, 6, 14);
    allDue(4, x.chipped(0, 0), x.chipped(0, 1), x.chipped(0, 2));
    x.spring(3);
    paper(x, 0, 16, 1, 0, 0);
    due(x.chips(0), 8);
    due(x.chipped(0, 0), 0);
    due(x.chipped(0, 1), 0);
    due(x.chipped(0, 2), 7);
    x.spring(5);
    paper(x, 0, 16, 2);
    due(x.chipped(0, 0), 1);
    due(x.chipped(0, 1), 1);
    due(x.chipped(0, 2), 7);
    allDue(BEYOND, x.chipped(0, 3), x.chipped(0, -1), x.chipped(4, 0), x.chipped(-1, 0), x.chipped(1, 3));
    due(x.chipped(1, 0), MISSING);
    x.write(0, 0, 3);
    allDue(NONE, x.chipped(0, 0), x.chipped(0, 1), x.chipped(0, 2));

    at(29);
    x = three();
    due(x.truly(0, 27, 0), 81);
    due(x.truly(0, 27, 1), 83);
    due(x.truly(0, 0, 0), 0);
    due(x.truly(0, 0, 1), 2);
    due(x.truly(0, 3333, 0), 9999);
    due(x.truly(0, 3333, 1), 9999);
    due(x.truly(0, 3334, 0), NONE);
    due(chain(3).truly(0, 0, 1), 9999);
    due(chain(3).truly(0, 1, 0), NONE);
    due(chain(4).truly(0, 3, 0), 9);
    due(chain(4).truly(0, 3, 1), 13);
    due(chain(4).truly(0, 2, 1), 10);
    x = chain(5, 0);
    due(x.truly(1, 1, 0), 49);
    x.change(0, 3, 30);
    due(x.truly(1, 1, 0), 4);
    allDue(BEYOND, x.truly(2, 1, 0), x.truly(-1, 1, 0), x.truly(0, -1, 0), x.truly(0, 10000, 0));
    allDue(BEYOND, x.truly(0, 1, 2), x.truly(0, 1, -1));
    due(x.now(1), 81);

    at(30);
    int z = 1 * 1103515245 + 12345;
    int first = (z >>> 8) % 300;
    x = chain(0);
    due(x.weather(1), first / 3);
    due(x.now(1), first);
    due(x.now(0), 1);
    due(x.count(6), z);
    z = z * 1103515245 + 12345;
    int second = (z >>> 8) % 300;
    due(x.weather(1), second / 3);
    x = chain(0);
    due(x.weather(2), first / 3 + second / 3);
    due(x.of(0, 4), first / 3 + second / 3);
    due(x.now(0), 2);
    x.seed(-12345);
    due(x.weather(1), ((-12345 * 1103515245 + 12345) >>> 8) % 300 / 3);
    allDue(BEYOND, x.weather(0), x.weather(13));
    x = atHour(fresh(), 9988);
    due(x.weather(12), STATE);
    due(x.count(6), 1);
    due(x.weather(11), 0);
    due(x.now(0), 9999);

    at(31);
    x = three();
    z = 1 * 1103515245 + 12345;
    int worn = (z >>> 8) % 3;
    z = z * 1103515245 + 12345;
    int kind = (z >>> 8) % 7;
    x.wear(1);
    due(x.of(worn, 0), kind);
    due(x.count(6), z);
    due(x.now(0), 0);
    ThirdFountain y = three();
    y.change(worn, 0, kind);
    due(x.now(6), y.now(6));
    x = three();
    due(x.wear(12), x.now(6));
    allDue(BEYOND, x.wear(0), x.wear(13), fresh().wear(0));
    due(fresh().wear(1), STATE);

    at(32);
    x = fresh();
    due(x.seed(7), 1);
    due(x.seed(-1000001), 7);
    due(x.seed(Integer.MIN_VALUE), -1000001);
    due(x.seed(-1000003), Integer.MIN_VALUE);
    due(x.count(6), -1000003);
    due(x.status(-1), 0);
  }

  // ---- texts

  private static void texts() {
    at(33);
    ThirdFountain x = fresh();
    due(x.feed(0x62617369, 4), 4);
    due(x.feed(0x7777776e, 1), 5);
    due(x.text(), 1);
    due(x.feed(0x7878203b, 2), 2);
    due(x.text(), -2);
    allDue(BEYOND, x.feed(0, 0), x.feed(0, 5), x.feed(0, -1));
    for (int i = 1; i <= 29; i++) due(x.feed(-1, 4), 4 * i);
    due(x.feed(1, 3), 119);
    due(x.feed(1, 2), FULL);
    due(x.count(5), 119);
    due(x.feed(1, 1), 120);
    due(x.feed(1, 1), FULL);
    due(x.feed(1, 5), BEYOND);

    at(34);
    due(x.wipe(), 120);
    due(x.wipe(), 0);
    due(x.count(5), 0);

    at(35);
    x = fresh();
    due(read(x, "basin;chipped below 0 edge 2;leaking below 1;holy below 2"), 4);
    due(read(x, "piped below 3;dammed below 4;flooded below 0 edge 9;spring 5;spring 99999"), 5);
    int[] kinds = {0, 1, 2, 3, 4, 5, 6};
    for (int b = 0; b < 7; b++) due(x.of(b, 0), kinds[b]);
    due(x.of(6, 1), 0);
    due(x.of(6, 2), 9);
    due(x.of(1, 2), 2);
    due(x.of(2, 2), 1);
    due(x.now(1), 99999);
    due(x.count(5), 0);
    due(read(x, "  spring   00007  "), 1);
    due(x.now(1), 7);
    due(read(x, "holy below0edge3;spring8;basin below 7edge1"), 3);
    due(x.of(8, 1), 7);
    due(read(x, "basin below 8;basin below 9"), -15);
    due(x.count(1), 9);
    due(read(x, "basin below 8"), 1);
    due(read(x, "spring 3; basin below 0"), -11);
    due(x.now(1), 8);
    due(x.status(-1), 0);
    due(read(x, "spring 0"), 1);
    due(x.now(1), 0);
    faults();
  }

  private static void faults() {
    due(read(fresh(), ""), -1);
    due(read(fresh(), "   "), -4);
    due(read(fresh(), ";"), -1);
    due(read(fresh(), "basin;"), -7);
    due(read(fresh(), "basin; ; "), -8);
    due(read(fresh(), "basin ;;"), -8);
    due(read(fresh(), "basins"), -1);
    due(read(fresh(), "basinz"), -1);
    due(read(fresh(), "bas in"), -1);
    due(read(fresh(), " Basin"), -2);
    due(read(fresh(), "basin\t"), -6);
    due(read(fresh(), "basin below 0"), -7);
    due(read(fresh(), "basin edge"), -11);
    due(read(fresh(), "basin edge 0"), -12);
    due(read(fresh(), "basin edge 10"), -12);
    due(read(fresh(), "basin edge 1 edge 2"), -14);
    due(read(fresh(), "basin edge 9;basin"), -19);
    due(read(fresh(), "basin;basin edge 1"), -13);
    due(read(fresh(), "basin;basin;"), -12);
    due(read(fresh(), "basin;basin below"), -18);
    due(read(fresh(), "basin;basin below 1"), -19);
    due(read(fresh(), "basin;basin below 0 below 0"), -21);
    due(read(fresh(), "basin;basin below x"), -19);
    due(read(fresh(), "spring"), -7);
    due(read(fresh(), "spring 99999"), 1);
    due(read(fresh(), "spring 100000"), -8);
    due(read(fresh(), "spring 4294967297"), -8);
    due(read(fresh(), "spring 00000000000000000000099999"), 1);
    due(read(fresh(), "spring 1 2"), -10);
    due(read(fresh(), "spring 1,2"), -9);
    due(read(fresh(), "spring -1"), -8);
    due(read(fresh(), "spring 1\u00e9"), -9);
    due(read(fresh(), "5"), -1);
    due(read(fresh(), "below 0"), -1);
    due(read(fresh(), "edge 1"), -1);
    ThirdFountain x = fresh();
    due(read(x, "basin;spring 5;basin below 1"), -28);
    due(x.count(1), 0);
    due(x.now(1), 81);
    due(x.count(5), 0);
    due(x.status(-1), 0);
    x = fresh();
    due(x.feed(0, 1), 1);
    due(x.text(), -1);
  }

  // ---- spots, sheets

  private static void sheets() {
    at(36);
    ThirdFountain x = three();
    due(x.hold(0, 2), 1);
    due(x.hold(9, 0), 1);
    due(x.count(7), 2);
    due(x.as(0, 0), 2);
    due(x.hold(0, -1), 1);
    due(x.count(7), 1);
    due(x.as(0, 0), MISSING);
    allDue(BEYOND, x.hold(10, 0), x.hold(-1, 0), x.hold(0, 3), x.hold(0, -2), fresh().hold(0, 0));
    due(fresh().hold(0, -1), 1);

    at(37);
    x = chain(0, 1, 2, 3, 4, 5, 6);
    int[] over = {-1, 0, 0, 1, 2, 0, 5};
    for (int b = 0; b < 7; b++) x.hold(b, b);
    for (int b = 0; b < 7; b++) {
      for (int kind = 0; kind < 7; kind++) {
        boolean is = kind == b || kind == 0 || over[b] == kind;
        due(x.as(b, kind), is ? b : KIND);
      }
    }
    due(x.as(7, 0), MISSING);
    allDue(BEYOND, x.as(10, 0), x.as(-1, 0), x.as(0, 7), x.as(0, -1), x.as(7, 7));
    x.change(0, 0, 3);
    due(x.as(0, 1), 0);

    at(38);
    x = fresh();
    due(x.sheet(0, 8, 40), 40);
    due(x.sheet(3, 32, 0), 0);
    due(x.load(3), 0);
    due(x.write(0, 39, 5), 1);
    due(x.sheet(0, 16, 2), 2);
    due(x.write(0, 2, 5), BEYOND);
    due(x.sheet(0, 0, 5), 0);
    due(x.write(0, 0, 5), MISSING);
    allDue(BEYOND, x.sheet(4, 8, 1), x.sheet(-1, 8, 1), x.sheet(0, 7, 1), x.sheet(0, 64, 1), x.sheet(0, -8, 1));
    allDue(BEYOND, x.sheet(0, 8, 41), x.sheet(0, 0, 41), x.sheet(4, 8, -1), x.sheet(0, 24, -1));
    allDue(SIZE, x.sheet(0, 8, -1), x.sheet(0, 0, -1), x.sheet(0, 32, Integer.MIN_VALUE));
    x = three();
    paper(x, 0, 8, 5, 6, 7);
    x.sheet(0, 8, 0);
    x.sheet(0, 8, 3);
    due(x.load(0), 0);

    at(39);
    x = chain(0, 0);
    x.spring(3 * 255);
    paper(x, 0, 8, 255);
    due(x.chips(0), 0);
    paper(x, 0, 16, 65535);
    due(x.chips(0), 0);
    paper(x, 0, 16, 255);
    due(x.chips(0), 2);
    paper(x, 0, 16, 65536 + 255);
    due(x.chips(0), 2);
    paper(x, 0, 32, 65536 + 255);
    due(x.chips(0), 0);
    x.spring(3 * 127);
    paper(x, 0, 8, 127 - 256);
    due(x.chips(0), 2);
    x.spring(99999);
    paper(x, 0, 32, 33333);
    due(x.chips(0), 2);
    paper(x, 0, 16, 33333);
    due(x.chips(0), 0);
    due(x.write(0, 0, 1), 1);
    allDue(BEYOND, x.write(4, 0, 1), x.write(-1, 0, 1), x.write(0, 1, 1), x.write(0, -1, 1));
    allDue(MISSING, x.write(1, 0, 1), x.write(1, -1, 1));
    copies();
    loads();
  }

  private static void copies() {
    at(40);
    ThirdFountain x = chain(0, 0, 0, 0);
    paper(x, 0, 8, 1, 2, 3, 4);
    x.sheet(1, 8, 4);
    due(x.copy(0, 1, 1, 0, 3), 3);
    due(x.load(1), 3);
    due(x.of(0, 2), 2);
    due(x.of(2, 2), 4);
    due(x.copy(0, 0, 0, 1, 3), 3);
    due(x.load(0), 4);
    due(x.of(1, 2), 1);
    due(x.of(2, 2), 2);
    due(x.of(3, 2), 3);
    paper(x, 0, 8, 1, 2, 3, 4);
    due(x.copy(0, 1, 0, 0, 3), 3);
    x.load(0);
    due(x.of(0, 2), 2);
    due(x.of(2, 2), 4);
    due(x.of(3, 2), 4);
    due(x.copy(0, 4, 1, 4, 0), 0);
    due(x.copy(0, 0, 1, 0, 4), 4);
    allDue(BEYOND, x.copy(0, 0, 1, 0, 5), x.copy(0, 1, 1, 0, 4), x.copy(0, 0, 1, 1, 4), x.copy(0, 5, 1, 0, 0));
    allDue(BEYOND, x.copy(0, 0, 1, 5, 0), x.copy(0, -1, 1, 0, 1), x.copy(0, 0, 1, -1, 1), x.copy(0, 0, 1, 0, -1));
    allDue(BEYOND, x.copy(0, Integer.MAX_VALUE, 1, 0, 1), x.copy(0, 1, 1, 0, Integer.MAX_VALUE));
    allDue(BEYOND, x.copy(4, 0, 2, 0, 0), x.copy(2, 0, -1, 0, 0), x.copy(-1, 0, 0, 0, 0));
    allDue(MISSING, x.copy(0, 0, 2, 0, 9), x.copy(2, 0, 0, 0, -1), x.copy(2, 0, 2, 0, 0));
    x.sheet(1, 16, 4);
    allDue(KIND, x.copy(0, 0, 1, 0, 1), x.copy(0, 0, 1, 0, 9), x.copy(1, -1, 0, 0, 9));
  }

  private static void loads() {
    at(41);
    ThirdFountain x = chain(0, 0, 0);
    paper(x, 0, 16, 9, 0, 5);
    due(x.load(0), 1);
    due(x.of(0, 2), 9);
    due(x.of(1, 2), 1);
    due(x.of(2, 2), 1);
    paper(x, 0, 16, 1, 2, 3, 4);
    due(x.load(0), 3);
    due(x.count(2), 6);
    paper(x, 0, 16, 4, 10);
    due(x.load(0), 1);
    paper(x, 0, 8, 255);
    due(x.load(0), 0);
    due(x.of(0, 2), 4);
    allDue(BEYOND, x.load(4), x.load(-1));
    due(x.load(1), MISSING);

    at(42);
    x = chain(5, 0);
    paper(x, 0, 16, 8, 18, 18);
    due(x.judge(0, 1), 0);
    paper(x, 0, 16, 8, 18, 17);
    due(x.judge(0, 1), 3);
    due(x.judge(0, 0), 1);
    x.sheet(0, 8, 0);
    due(x.judge(0, 0), 0);
    due(x.now(0), 0);
    due(x.of(0, 3), 0);
    allDue(BEYOND, x.judge(4, 0), x.judge(-1, 0), x.judge(0, 2), x.judge(0, -1), x.judge(4, 9));
    due(x.judge(1, 9), MISSING);
    atHour(x, 9998);
    x.sheet(0, 16, 1);
    due(x.judge(0, 0), 1);
    x.sheet(0, 16, 2);
    due(x.judge(0, 0), STATE);
    due(x.judge(0, 2), BEYOND);
  }

  // ---- images

  private static void images() {
    at(43);
    ThirdFountain x = three();
    x.hours(3);
    x.hold(4, 1);
    x.seed(9);
    paper(x, 0, 8, 7, 7);
    fed(x, "ab");
    due(x.image(), 1);
    x.hours(5);
    x.basin(3, 2);
    x.change(0, 0, 5);
    x.change(0, 2, 9);
    x.join(2, 1);
    x.hours(1);
    x.hold(4, 3);
    x.hold(5, 3);
    x.seed(10);
    x.spring(5);
    x.write(0, 0, 6);
    x.sheet(1, 8, 2);
    fed(x, "c");

    at(44);
    due(x.undo(), 3);
    int[] all = {3, 3, 4, 0, 81, 3, 9, 1};
    for (int what = 0; what < 8; what++) due(x.count(what), all[what]);
    due(x.as(4, 0), 1);
    due(x.of(0, 0), 0);
    due(x.of(2, 1), 0);
    due(x.of(2, 4), 42);
    due(x.load(0), 2);
    due(x.of(0, 2), 6);
    due(x.load(1), 0);
    due(x.undo(), 3);
    due(x.of(0, 2), 1);
    due(x.image(), 1);
    x.hours(2);
    due(x.undo(), 3);
    due(fresh().undo(), NONE);

    at(45);
    due(x.tear(), 1);
    due(x.tear(), 0);
    due(x.undo(), NONE);
    due(x.now(0), 3);
    due(x.image(), 1);
    due(x.undo(), 3);

    at(46);
    x = told("dammed edge 4;basin below 0 edge 2;spring 900");
    x.hours(7);
    x.hold(0, 0);
    x.hold(1, 0);
    x.hold(1, 1);
    fed(x, "xyz");
    int[] then = {7, 2, 6, 30, 900, 3, 1, 2};
    for (int what = 0; what < 8; what++) due(x.count(what), then[what]);
    allDue(BEYOND, x.count(8), x.count(-1));

    at(47);
    x = fresh();
    x.undo();
    x.image();
    x.hours(101);
    x.needs(1);
    x.extreme(0);
    x.load(0);
    x.sheet(0, 8, -1);
    for (int b = 0; b < 11; b++) x.basin(0, b - 1);
    x.hold(0, 0);
    x.as(0, 1);
    x.share(10, 0);
    int[] told = {2, 1, 1, 2, 1, 1, 1};
    for (int f = 0; f < 7; f++) due(x.status(f), told[f]);
    due(x.status(-1), 9);
    x.undo();
    due(x.status(-1), 9);
    due(x.status(7), BEYOND);
    due(x.status(0), 3);
    due(x.status(-2), BEYOND);
    due(x.status(-1), 11);
  }

  public static void main(String[] args) {
    basins();
    shares();
    hours();
    places();
    shorts();
    texts();
    sheets();
    images();
    System.out.println(wrong == 0 ? "all promises hold" : wrong + " answers are not as due");
    if (wrong != 0) System.exit(1);
  }
}
