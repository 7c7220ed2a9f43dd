/** Promises 33 to 35, and what the Terms say of a TEXT, sentence by sentence. */
public final class TextsTest extends Sentences {

  private static void itemsDue(String text, int items) {
    due(read(fresh(), text), items);
  }

  private static void faultDue(String text, int fault) {
    due(read(fresh(), text), -1 - fault);
  }

  private static String blanks(int n) {
    return " ".repeat(n);
  }

  private static void tape() {
    holds(0, "A TEXT is read from THE TAPE (bytes, at most 120)");
    itemsDue("basin" + blanks(115), 1);
    itemsDue(blanks(115) + "basin", 1);
    itemsDue(blanks(111) + "spring 12", 1);
    faultDue(blanks(120), 120);
    faultDue(blanks(114) + "basins", 114);
    faultDue(blanks(113) + "spring ", 120);
    itemsDue("spring " + "0".repeat(112) + "7", 1);
    faultDue("spring " + "9".repeat(113), 7);
    faultDue("a".repeat(120), 0);
    faultDue(";".repeat(120), 0);

    holds(33, "THE TAPE gets the n lowest bytes of a number behind it, the highest of these first (n 1 to 4): how many it has");
    ThirdFountain x = fresh();
    due(x.feed('b' << 24 | 'a' << 16 | 's' << 8 | 'i', 4), 4);
    due(x.feed(0x7f7f7f00 | 'n', 1), 5);
    due(x.feed(0xffff0000 | ';' << 8 | 'h', 2), 7);
    due(x.feed(0xff000000 | 'o' << 16 | 'l' << 8 | 'y', 3), 10);
    due(x.text(), -1 - 10);
    x.feed(-1, 1);
    due(x.text(), -1);
    x.feed(' ' << 8 | 255, 2);
    due(x.text(), -2);
    for (int i = 1; i <= 30; i++) due(x.feed(i, 4), 4 * i);

    holds(33, "BEYOND: n");
    refused(BEYOND, Sentences::rich, y -> y.feed(97, 0), y -> y.feed(97, 5), y -> y.feed(97, -1), y -> y.feed(97, MIN),
        y -> y.feed(97, MAX));
    refused(BEYOND, () -> fed(rich(), blanks(112)), y -> y.feed(97, 5), y -> y.feed(97, 0), y -> y.feed(97, MAX));

    holds(33, "FULL");
    refused(FULL, () -> fed(rich(), blanks(112)), y -> y.feed(97, 1), y -> y.feed(97, 4));
    refused(FULL, () -> fed(rich(), blanks(111)), y -> y.feed(97, 2), y -> y.feed(97, 4));
    refused(FULL, () -> fed(rich(), blanks(109)), y -> y.feed(97, 4));
    due(fed(rich(), blanks(111)).feed(97, 1), 120);
    due(fed(rich(), blanks(109)).feed(97, 3), 120);

    holds(34, "THE TAPE is empty: how many it had");
    x = fed(fresh(), "basin" + blanks(115));
    due(x.wipe(), 120);
    due(x.wipe(), 0);
    due(x.count(5), 0);
    due(x.feed(97, 4), 4);
    due(x.wipe(), 4);
    due(x.text(), -1);
  }

  private static void tokens() {
    holds(0, "TOKENS, each as long as can be: WORDS (letters a to z), NUMBERS (digits, 99999 at most), SIGN ; ; "
        + "blanks may stand between");
    itemsDue("basin;holy below 0;holy below 0 edge 3;spring 3", 4);
    itemsDue("  basin  ;  holy   below   0  edge  3  ", 2);
    itemsDue("basin;holy below0edge3;spring3", 3);
    faultDue("basi n", 0);
    faultDue("basinbelow 0", 0);
    faultDue("spring 1 2", 9);
    faultDue("spring1a", 7);
    faultDue("springspring", 0);
    itemsDue("spring 0", 1);
    itemsDue("spring 99999", 1);
    faultDue("spring 100000", 7);
    for (String odd : new String[] {"casin", "basim", "basinz", "abasin", "basi", "qpring 1", "springz 1", "holey", "BASIN"}) {
      faultDue(odd, 0);
    }
    faultDue("basin;basin aelow 0", 12);
    faultDue("basin eege 1", 6);
    faultDue("basin edges 1", 6);
    itemsDue("spring 0099999", 1);
    faultDue("spring 00100000", 7);
    faultDue("spring 4294967297", 7);
    faultDue("spring 2147483648", 7);
    faultDue("spring 18446744073709551617", 7);
    // Bytes beside the letters, the digits and the SIGN, and above 127.
    for (int odd : new int[] {0, 9, 10, 13, 31, 33, 45, 47, 58, 60, 64, 65, 90, 96, 123, 127, 128, 160, 187, 225, 255}) {
      faultDue("" + (char) odd, 0);
      faultDue("basin" + (char) odd, 5);
      faultDue("spring 1" + (char) odd, 8);
    }
    ThirdFountain x = told("spring 00042");
    due(x.now(1), 42);
  }

  private static void items() {
    holds(0, "TEXT: ITEM { ; ITEM }");
    itemsDue("spring 1", 1);
    itemsDue("spring 1;spring 2", 2);
    faultDue("", 0);
    faultDue(";", 0);
    faultDue("spring 1;", 9);
    faultDue(";spring 1", 0);
    faultDue("spring 1;;spring 2", 9);
    faultDue("spring 1 spring 2", 9);
    faultDue("basin basin", 6);
    StringBuilder many = new StringBuilder("spring1");
    for (int i = 1; i < 15; i++) many.append(";spring").append(i % 10);
    itemsDue(many.toString(), 15);

    holds(0, "ITEM: basin, chipped, leaking, holy, piped, dammed or flooded, below and a NUMBER (a BASIN there by then; "
        + "without these words just if there is none), perhaps edge and a NUMBER (1 to 9): a new BASIN; spring and a NUMBER");
    String[] words = {"basin", "chipped", "leaking", "holy", "piped", "dammed", "flooded"};
    for (int kind = 0; kind < 7; kind++) due(told(words[kind]).of(0, 0), kind);
    ThirdFountain x = told("holy edge 9;piped below 0;basin below 1 edge 1;dammed below 0 edge 5");
    int[] all = {3, -1, 9, 4, 0, 1, 0, 1, 1, 5, 0, 5};
    for (int i = 0; i < 12; i++) due(x.of(i / 3, i % 3), all[i]);
    faultDue("basin below 0", 6);
    faultDue("basin below", 6);
    faultDue("basin;basin", 11);
    faultDue("basin;basin edge 2", 12);
    faultDue("basin;basin;basin below 0", 11);
    itemsDue("basin;basin below 0", 2);
    faultDue("basin;basin below 1", 18);
    faultDue("basin;basin below 99999", 18);
    itemsDue("basin;basin below 0;basin below 1", 3);
    faultDue("basin;basin below 0;basin below 2", 32);
    faultDue("basin;basin below edge 2", 18);
    faultDue("basin;basin below 0 below 0", 20);
    itemsDue("basin edge 1", 1);
    itemsDue("basin edge 9", 1);
    itemsDue("basin edge 009", 1);
    faultDue("basin edge 0", 11);
    faultDue("basin edge 10", 11);
    faultDue("basin edge", 10);
    faultDue("basin edge ;", 11);
    faultDue("basin edge 1 edge 2", 13);
    faultDue("basin edge 1 below 0", 13);
    faultDue("basin;basin edge 1 below 0", 12);
    faultDue("spring", 6);
    faultDue("spring ;", 7);
    faultDue("spring x", 7);
    faultDue("spring 1 edge 2", 9);
    faultDue("below 0", 0);
    faultDue("edge 1", 0);
    faultDue("7", 0);
    // BASINS that are there already.
    x = three();
    due(read(x, "basin"), -1 - 5);
    due(read(x, "basin below 3"), -1 - 12);
    due(read(x, "basin below 2"), 1);
    due(x.of(3, 1), 2);
  }

  private static void faults() {
    holds(0, "FAULT: the place (from 0) of the first byte of the first TOKEN that can't stand there (a NUMBER that isn't as told, "
        + "another WORD, a byte that begins no TOKEN, the WORD of an 11th BASIN: its own), or how many bytes there are if it ends too early");
    faultDue("  spring  123456", 10);
    faultDue("basin;  basins below 0", 8);
    faultDue("basin;basin below 0 edges 2", 20);
    faultDue("basin;basin beloww 0", 12);
    faultDue("Basin", 0);
    faultDue("spring 1 !", 9);
    // The first one counts, though there are others behind it.
    faultDue("spring x;basin edge 0;?", 7);
    faultDue("basin below 0 edge 77 ! 123456", 6);
    // An 11th BASIN, in one TEXT and in a later one, with anything behind it or nothing.
    ThirdFountain x = chain(0, 0, 0, 0, 0, 0, 0, 0);
    due(read(x, "holy below 0;  holy below 8 edge 9 ;holy below 9"), -1 - 36);
    due(x.count(1), 8);
    due(read(x, "holy below 0;  holy below 8 edge 9"), 2);
    due(read(x, "holy below 0"), -1);
    due(read(x, "  holy"), -1 - 2);
    due(read(x, "spring 5;basin below 99999"), -1 - 9);
    due(read(x, "basins"), -1);
    due(read(x, "spring 5"), 1);
    due(x.count(1), 10);
    // It ends too early: blanks at its end count.
    faultDue("   ", 3);
    faultDue("basin;   ", 9);
    faultDue("basin;basin below   ", 20);
    faultDue("basin;basin  ", 13);
    faultDue("basin edge  ", 12);
    faultDue("spring  ", 8);
  }

  private static void text() {
    holds(35, "THE TAPE is a TEXT, and empty then; all that it tells is so, item by item: how many ITEMS");
    ThirdFountain x = fed(fresh(), "spring 5;basin;chipped below 0 edge 2;spring 9;spring 10");
    due(x.text(), 5);
    due(x.count(5), 0);
    due(x.now(1), 10);
    due(x.count(1), 2);
    due(x.of(1, 0), 1);
    due(x.of(1, 2), 2);
    allDue(0, x.of(1, 3), x.of(1, 4), x.count(0));
    due(x.text(), -1);
    due(read(x, "spring 0"), 1);
    due(x.now(1), 0);
    due(x.status(-1), 0);

    holds(35, "With a FAULT: -1 less the FAULT (nothing changes but that THE TAPE is empty; no finding)");
    for (String odd : new String[] {";", ";basin below 0;", ";basin below 3;spring 100000", "0;basin below 0 edge 10", " ?"}) {
      x = fed(rich(), odd);
      ThirdFountain same = rich();
      same.wipe();
      due(x.text() < 0 ? 1 : 0, 1);
      due(x.count(5), 0);
      for (int which = -1; which < 7; which++) due(x.status(which), same.status(which));
      alike(x, same);
    }
    x = fresh();
    due(read(x, "basin;spring 5;basin below 1"), -28);
    due(x.count(1), 0);
    due(x.now(1), 81);
    due(x.status(-1), 0);
    x = fresh();
    due(x.text(), -1);
    due(x.status(-1), 0);
  }

  public static void main(String[] args) {
    tape();
    tokens();
    items();
    faults();
    text();
    end();
  }
}
