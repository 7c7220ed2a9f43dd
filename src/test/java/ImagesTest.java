/** Promises 43 to 47, sentence by sentence. */
public final class ImagesTest extends Sentences {

  private static void countsDue(ThirdFountain x, int... want) {
    for (int what = 0; what < want.length; what++) due(x.count(what), want[what]);
  }

  /** Changes whatever there is in rich(). */
  private static void spoil(ThirdFountain x) {
    x.hours(5);
    x.basin(3, 2);
    x.change(0, 0, 5);
    x.change(0, 2, 9);
    x.change(1, 3, 4);
    x.change(2, 4, 4);
    x.join(3, 0);
    x.hold(0, 3);
    x.hold(4, -1);
    x.hold(5, 4);
    x.seed(10);
    x.spring(5);
  }

  private static void image() {
    holds(43, "All but THE TAPE and SHEETS is kept: 1");
    ThirdFountain x = rich(), same = rich();
    due(x.image(), 1);
    spoil(x);
    same.image();
    x.undo();
    alike(x, same);
    // THE TAPE and SHEETS stay as they are by then.
    x = rich();
    x.image();
    x.wipe();
    fed(x, "spring 123");
    paper(x, 0, 8, 4, 4);
    x.sheet(1, 0, 0);
    paper(x, 2, 32, 1);
    x.undo();
    due(x.count(5), 10);
    due(x.load(0), 2);
    due(x.of(1, 2), 4);
    due(x.load(1), MISSING);
    due(x.load(2), 1);
    due(x.text(), 1);
    due(x.now(1), 123);
    // Of an empty fountain, and one image in place of another one.
    x = fresh();
    due(x.image(), 1);
    x.basin(0, -1);
    x.undo();
    due(x.count(1), 0);
    due(x.basin(0, 0), BEYOND);
    due(x.basin(0, -1), 0);
    due(x.image(), 1);
    due(x.image(), 1);
    x.undo();
    due(x.count(1), 1);

    holds(44, "It becomes what was kept latest (which stays): HOUR");
    x = three();
    x.hours(3);
    x.image();
    x.hours(4);
    x.hold(3, 1);
    x.image();
    x.hours(5);
    due(x.undo(), 7);
    countsDue(x, 7, 3, 4, 0, 81, 0, 1, 1);
    spoil(x);
    due(x.undo(), 7);
    due(x.undo(), 7);
    countsDue(x, 7, 3, 4, 0, 81, 0, 1, 1);
    due(x.of(2, 4), 7 * 14);
    due(x.of(2, 1), 0);
    due(x.of(2, 0), 1);
    due(x.as(3, 0), 1);
    due(x.hours(1), 47);
    due(x.undo(), 7);
    x = atHour(three(), 9999);
    x.image();
    due(x.undo(), 9999);
    due(x.hours(1), STATE);
    x = three();
    x.image();
    due(atHour(x, 9999).hours(1), STATE);
    due(x.undo(), 0);
    due(x.hours(1), 47);

    holds(44, "NONE: nothing is kept");
    refused(NONE, Sentences::fresh, y -> y.undo());
    refused(NONE, Sentences::three, y -> y.undo());
    refused(NONE, () -> torn(rich()), y -> y.undo());
  }

  private static ThirdFountain torn(ThirdFountain x) {
    x.tear();
    return x;
  }

  private static void tear() {
    holds(45, "Nothing is kept: 1 if something was, else 0");
    ThirdFountain x = fresh();
    due(x.tear(), 0);
    x.image();
    due(x.tear(), 1);
    due(x.tear(), 0);
    due(x.undo(), NONE);
    x.image();
    x.image();
    x.undo();
    due(x.tear(), 1);
    due(x.undo(), NONE);
    // What there is stays.
    x = rich();
    x.tear();
    ThirdFountain same = rich();
    x.image();
    same.image();
    alike(x, same);
  }

  private static void count() {
    holds(46, "0 HOUR, 1 BASINS, 2 EDGES of all, 3 POOLS of all, 4 THE SPRING, 5 bytes of THE TAPE, 6 z, "
        + "7 SPOTS that hold something");
    countsDue(fresh(), 0, 0, 0, 0, 81, 0, 1, 0);
    ThirdFountain x = laid(5, -1, 4, 0, 0, 2);
    x.spring(900);
    x.hours(7);
    x.change(1, 3, 8);
    x.hold(0, 0);
    x.hold(1, 0);
    x.hold(1, 1);
    fed(x, "xyz");
    countsDue(x, 7, 2, 6, 38, 900, 3, 1, 2);
    x = full();
    for (int b = 0; b < 10; b++) {
      x.change(b, 2, 9);
      x.change(b, 3, 30);
      x.hold(b, b);
    }
    x.spring(99999);
    fed(x, " ".repeat(120));
    x.seed(MIN);
    countsDue(x, 0, 10, 90, 300, 99999, 120, MIN, 10);
    due(x.status(-1), 0);

    holds(46, "BEYOND: another what");
    refused(BEYOND, Sentences::rich, y -> y.count(8), y -> y.count(-1), y -> y.count(MIN), y -> y.count(MAX));
    refused(BEYOND, Sentences::fresh, y -> y.count(8), y -> y.count(-1));
  }

  private static void status() {
    holds(47, "How many acts answered a finding ever (undo() takes none back): which -1: all, 0 to 6: BEYOND to SIZE");
    ThirdFountain x = fresh();
    for (int which = -1; which < 7; which++) due(x.status(which), 0);
    x.undo();
    x.image();
    x.hours(101);
    x.needs(1);
    x.extreme(0);
    x.load(0);
    x.sheet(0, 8, -1);
    for (int b = 0; b < 11; b++) x.basin(0, b - 1);
    x.hold(0, 0);
    x.as(0, 1);
    x.share(10, 0);
    int[] told = {2, 1, 1, 2, 1, 1, 1};
    for (int which = 0; which < 7; which++) due(x.status(which), told[which]);
    due(x.status(-1), 9);
    x.undo();
    for (int which = 0; which < 7; which++) due(x.status(which), told[which]);
    due(x.status(-1), 9);
    // Longs, too; a FAULT is none; asking with no finding is none.
    x = tooLong();
    x.share(9, 0);
    x.rest(9, 0);
    x.share(10, 0);
    read(x, "?");
    x.now(6);
    due(x.status(6), 2);
    due(x.status(0), 1);
    due(x.status(-1), 3);
    x = fresh();
    for (int i = 0; i < 300; i++) x.undo();
    due(x.status(3), 300);
    due(x.status(-1), 300);

    holds(47, "BEYOND (counted from then on): another one");
    for (int odd : new int[] {7, -2, MIN, MAX}) {
      x = fresh();
      due(x.status(odd), BEYOND);
      due(x.status(0), 1);
      due(x.status(-1), 1);
      due(x.status(odd), BEYOND);
      due(x.status(0), 2);
      refused(BEYOND, Sentences::rich, y -> y.status(odd));
    }
  }

  public static void main(String[] args) {
    image();
    tear();
    count();
    status();
    end();
  }
}
