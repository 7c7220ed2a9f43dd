/**
 * A fountain that divides by three: water comes from a spring down over basins, each house keeps
 * its part of what comes to its basin, and the rest goes on to the basins below.
 *
 * <p>Every row is made in a constructor and used again: no call makes an object.
 */
public final class ThirdFountain {

  private static final int BEYOND = -1000001;
  private static final int FULL = BEYOND - 1;
  private static final int WRONG_KIND = BEYOND - 2;
  private static final int NONE = BEYOND - 3;
  private static final int STATE = BEYOND - 4;
  private static final int MISSING = BEYOND - 5;
  private static final int SIZE = BEYOND - 6;
  private static final int FINDINGS = 7;

  private static final int MOST_BASINS = 10;
  private static final int MOST_SPRING = 99999;
  private static final int MOST_TRIED_SPRING = 9999;
  private static final int MOST_HOUR = 9999;
  private static final int MOST_POOL = 30;
  private static final int MOST_STORE = 99999999;
  private static final int MOST_EDGE = 9;
  private static final int MOST_AHEAD = 100;
  private static final int MOST_WEIGHED = 60;
  private static final int MOST_DRAWN = 12;
  private static final int SPOTS = 10;
  private static final int SHEETS = 4;
  private static final int MOST_NUMBERS = 40;
  private static final int MOST_BYTES = 120;
  private static final int NOTHING = -1;

  private final Fountain present;
  private final Fountain picture;
  private final Fountain trial;
  private final Flow flow;
  private final Shares shares;
  private final ChipSearch search;
  private final Tape tape;
  private final Sheet[] sheets;
  private final int[] usual;
  private final int[] told;
  private boolean pictured;

  public ThirdFountain() {
    present = new Fountain();
    picture = new Fountain();
    trial = new Fountain();
    flow = new Flow();
    shares = new Shares();
    search = new ChipSearch();
    tape = new Tape();
    sheets = new Sheet[SHEETS];
    for (int s = 0; s < SHEETS; s++) {
      sheets[s] = new Sheet();
    }
    usual = new int[MOST_BASINS];
    told = new int[FINDINGS];
    pictured = false;
  }

  // ---- basins

  public int basin(int kind, int below) {
    boolean placed = present.basins == 0 ? below == NOTHING : isBasin(below);
    if (!placed || !Kinds.isKind(kind)) {
      return tell(BEYOND);
    }
    if (present.basins >= MOST_BASINS) {
      return tell(FULL);
    }
    return present.add(kind, below, 1);
  }

  public int of(int basin, int what) {
    if (!isBasin(basin)) {
      return tell(BEYOND);
    }
    switch (what) {
      case 0:
        return present.kind[basin];
      case 1:
        return present.above[basin];
      case 2:
        return present.edge[basin];
      case 3:
        return present.pool[basin];
      case 4:
        return present.store[basin];
      case 5:
        flow.reckon(present);
        return flow.comes[basin];
      case 6:
        flow.reckon(present);
        return flow.keeps[basin];
      default:
        return tell(BEYOND);
    }
  }

  public int change(int basin, int what, int v) {
    if (!isBasin(basin)) {
      return tell(BEYOND);
    }
    switch (what) {
      case 0:
        return put(present.kind, basin, v, 0, Kinds.LAST);
      case 2:
        return put(present.edge, basin, v, 1, MOST_EDGE);
      case 3:
        return put(present.pool, basin, v, 0, MOST_POOL);
      case 4:
        return put(present.store, basin, v, 0, MOST_STORE);
      default:
        return tell(BEYOND);
    }
  }

  public int join(int basin, int below) {
    if (!isBasin(basin) || below < 0 || below >= basin) {
      return tell(BEYOND);
    }
    int was = present.above[basin];
    present.above[basin] = below;
    return was;
  }

  public int spring(int v) {
    if (!within(v, 0, MOST_SPRING)) {
      return tell(BEYOND);
    }
    int was = present.spring;
    present.spring = v;
    return was;
  }

  public int under(int basin, int what) {
    if (!isBasin(basin) || !within(what, 0, 1)) {
      return tell(BEYOND);
    }
    int found = 0;
    for (int b = basin + 1; b < present.basins; b++) {
      int above = present.above[b];
      boolean byStep = what == 1 && ((found >> above) & 1) == 1;
      if (above == basin || byStep) {
        found |= 1 << b;
      }
    }
    return found;
  }

  public int steps(int basin) {
    if (!isBasin(basin)) {
      return tell(BEYOND);
    }
    int steps = 0;
    for (int b = present.aboveOf(basin); b >= 0 && steps < MOST_BASINS; b = present.aboveOf(b)) {
      steps++;
    }
    return steps;
  }

  // ---- shares

  public long share(int basin, int what) {
    if (!isBasin(basin) || !within(what, 0, 1)) {
      return tell(BEYOND);
    }
    shares.reckon(present);
    if (!shares.keptFits[basin]) {
      return tell(SIZE);
    }
    return what == 0 ? shares.keptTop[basin] : shares.keptBottom[basin];
  }

  public long rest(int basin, int what) {
    if (!isBasin(basin) || !within(what, 0, 1)) {
      return tell(BEYOND);
    }
    if (present.widthUnder(basin) > 0) {
      return what;
    }
    shares.reckon(present);
    if (!shares.onFits[basin]) {
      return tell(SIZE);
    }
    return what == 0 ? shares.onTop[basin] : shares.onBottom[basin];
  }

  public int compare(int one, int other) {
    if (!isBasin(one) || !isBasin(other)) {
      return tell(BEYOND);
    }
    shares.reckon(present);
    if (!shares.keptFits[one] || !shares.keptFits[other]) {
      return tell(SIZE);
    }
    return shares.order(one, other);
  }

  public int extreme(int what) {
    if (!within(what, 0, 1)) {
      return tell(BEYOND);
    }
    if (present.basins == 0) {
      return tell(NONE);
    }
    shares.reckon(present);
    int wanted = what == 0 ? 1 : -1;
    int best = 0;
    for (int b = 0; b < present.basins; b++) {
      if (!shares.keptFits[b]) {
        return tell(SIZE);
      }
      if (shares.order(b, best) == wanted) {
        best = b;
      }
    }
    return best;
  }

  public int needs(int v) {
    if (!within(v, 1, 99)) {
      return tell(BEYOND);
    }
    if (present.basins == 0) {
      return tell(STATE);
    }
    startTrial();
    for (int b = 0; b < trial.basins; b++) {
      trial.pool[b] = MOST_POOL;
    }
    for (int s = lowestSpringForAll(v); s <= MOST_SPRING; s++) {
      trial.spring = s;
      flow.reckon(trial);
      if (eachKeeps(v)) {
        return s;
      }
    }
    return tell(NONE);
  }

  public int even() {
    if (present.basins == 0) {
      return tell(STATE);
    }
    startTrial();
    for (int s = 1; s <= MOST_TRIED_SPRING; s++) {
      trial.spring = s;
      flow.reckon(trial);
      if (flow.uneven == 0) {
        return s;
      }
    }
    return tell(NONE);
  }

  // ---- hours

  public int hours(int n) {
    if (!within(n, 1, MOST_AHEAD)) {
      return tell(BEYOND);
    }
    if (tooLate(n)) {
      return tell(STATE);
    }
    flow.pass(present, n);
    return flow.keptInAll;
  }

  public int now(int what) {
    switch (what) {
      case 0:
        return present.hour;
      case 1:
        return present.spring;
      case 2:
        return present.sum(present.store);
      case 3:
        return present.sum(present.pool);
      case 4:
        flow.reckon(present);
        return flow.ranOff;
      case 5:
        flow.reckon(present);
        return flow.leaked;
      case 6:
        flow.reckon(present);
        return flow.kept;
      default:
        return tell(BEYOND);
    }
  }

  public int ahead(int n, int what) {
    boolean known = within(what, 0, 2) || (what > 2 && isBasin(what - 3));
    if (!known || !within(n, 0, MOST_AHEAD)) {
      return tell(BEYOND);
    }
    if (tooLate(n)) {
      return tell(STATE);
    }
    startTrial();
    flow.pass(trial, n);
    switch (what) {
      case 0:
        return flow.keptInAll;
      case 1:
        return flow.ranOffInAll;
      case 2:
        return flow.leakedInAll;
      default:
        return gain(what - 3);
    }
  }

  public int when(int basin, int v) {
    if (!isBasin(basin) || !within(v, 1, 99999)) {
      return tell(BEYOND);
    }
    if (tooLate(MOST_AHEAD)) {
      return tell(STATE);
    }
    startTrial();
    for (int n = 0; n <= MOST_AHEAD; n++) {
      if (trial.store[basin] >= v) {
        return n;
      }
      flow.pass(trial, 1);
    }
    return tell(NONE);
  }

  public int loses(int basin, int n) {
    if (!isBasin(basin) || !within(n, 1, MOST_AHEAD)) {
      return tell(BEYOND);
    }
    if (tooLate(n)) {
      return tell(STATE);
    }
    shares.reckon(present);
    long bottom = shares.keptBottom[basin];
    if (!shares.keptFits[basin] || bottom <= 0) {
      return tell(SIZE);
    }
    long given = (long) present.spring * n;
    long due = given * shares.keptTop[basin] / bottom;
    startTrial();
    flow.pass(trial, n);
    return (int) due - gain(basin);
  }

  // ---- edges, places

  public int edge(int basin, int n) {
    int finding = findingOfWeighing(basin, n);
    if (finding != 0) {
      return tell(finding);
    }
    int best = 1;
    int most = NOTHING;
    for (int e = 1; e <= MOST_EDGE; e++) {
      startTrial();
      trial.edge[basin] = e;
      flow.pass(trial, n);
      if (gain(basin) > most) {
        most = gain(basin);
        best = e;
      }
    }
    return best;
  }

  public int place(int basin, int n) {
    int finding = basin == 0 ? BEYOND : findingOfWeighing(basin, n);
    if (finding != 0) {
      return tell(finding);
    }
    int best = 0;
    int most = NOTHING;
    for (int above = 0; above < basin; above++) {
      startTrial();
      trial.above[basin] = above;
      flow.pass(trial, n);
      if (gain(basin) > most) {
        most = gain(basin);
        best = above;
      }
    }
    return best;
  }

  public int kindFor(int basin, int n) {
    int finding = findingOfWeighing(basin, n);
    if (finding != 0) {
      return tell(finding);
    }
    int best = 0;
    int most = NOTHING;
    for (int kind = 0; kind <= Kinds.LAST; kind++) {
      passAsKind(basin, kind, n);
      if (gain(basin) > most) {
        most = gain(basin);
        best = kind;
      }
    }
    return best;
  }

  public int hurt(int basin, int n) {
    int finding = findingOfWeighing(basin, n);
    if (finding != 0) {
      return tell(finding);
    }
    noteUsualGains(n);
    passAsKind(basin, Kinds.CHIPPED, n);
    int found = 0;
    for (int b = 0; b < present.basins; b++) {
      if (gain(b) < usual[b]) {
        found |= 1 << b;
      }
    }
    return found;
  }

  public int deal(int n) {
    int finding = findingOfWeighedHours(n);
    if (finding != 0) {
      return tell(finding);
    }
    noteUsualGains(n);
    for (int one = 1; one < present.basins; one++) {
      for (int other = one + 1; other < present.basins; other++) {
        if (present.above[other] < one && bothGain(one, other, n)) {
          return 10 * one + other;
        }
      }
    }
    return tell(NONE);
  }

  public int law(int n) {
    int finding = findingOfWeighedHours(n);
    if (finding != 0) {
      return tell(finding);
    }
    int best = 0;
    int most = NOTHING;
    for (int kind = 0; kind <= Kinds.LAST; kind++) {
      startTrial();
      for (int b = 0; b < trial.basins; b++) {
        trial.kind[b] = kind;
      }
      flow.pass(trial, n);
      if (flow.keptInAll > most) {
        most = flow.keptInAll;
        best = kind;
      }
    }
    return best;
  }

  public int generous(int n) {
    int finding = findingOfWeighedHours(n);
    if (finding != 0) {
      return tell(finding);
    }
    if (present.basins == 0) {
      return tell(NONE);
    }
    noteUsualGains(n);
    int best = 0;
    int most = NOTHING;
    for (int b = 0; b < present.basins; b++) {
      passAsKind(b, Kinds.HOLY, n);
      int helped = othersThatGain(b);
      if (helped > most) {
        most = helped;
        best = b;
      }
    }
    return best;
  }

  // ---- what is short

  public int chips(int s) {
    Sheet sheet = sheetAt(s);
    if (sheet == null) {
      return tell(BEYOND);
    }
    if (sheet.isMissing()) {
      return tell(MISSING);
    }
    startTrial();
    search.look(trial, flow, sheet);
    return search.sets;
  }

  public int chipped(int s, int what) {
    Sheet sheet = sheetAt(s);
    if (sheet == null || !within(what, 0, 2)) {
      return tell(BEYOND);
    }
    if (sheet.isMissing()) {
      return tell(MISSING);
    }
    startTrial();
    search.look(trial, flow, sheet);
    if (search.sets == 0) {
      return tell(NONE);
    }
    switch (what) {
      case 0:
        return search.least;
      case 1:
        return search.inAll;
      default:
        return search.inAny;
    }
  }

  public int truly(int basin, int v, int what) {
    if (!isBasin(basin) || !within(v, 0, 9999) || !within(what, 0, 1)) {
      return tell(BEYOND);
    }
    startTrial();
    for (int i = 0; i <= MOST_TRIED_SPRING; i++) {
      trial.spring = what == 0 ? i : MOST_TRIED_SPRING - i;
      flow.reckon(trial);
      if (flow.keeps[basin] == v) {
        return trial.spring;
      }
    }
    return tell(NONE);
  }

  // ---- draws

  public int weather(int n) {
    if (!within(n, 1, MOST_DRAWN)) {
      return tell(BEYOND);
    }
    if (tooLate(n)) {
      return tell(STATE);
    }
    int kept = 0;
    for (int i = 0; i < n; i++) {
      present.spring = present.draw() % 300;
      flow.pass(present, 1);
      kept += flow.keptInAll;
    }
    return kept;
  }

  public int wear(int n) {
    if (!within(n, 1, MOST_DRAWN)) {
      return tell(BEYOND);
    }
    int basins = present.basins;
    if (basins <= 0) {
      return tell(STATE);
    }
    for (int i = 0; i < n; i++) {
      int worn = present.draw() % basins;
      present.kind[worn] = present.draw() % (Kinds.LAST + 1);
    }
    flow.reckon(present);
    return flow.kept;
  }

  public int seed(int v) {
    int was = present.z;
    present.z = v;
    return was;
  }

  // ---- texts

  public int feed(int bytes, int n) {
    if (!within(n, 1, 4)) {
      return tell(BEYOND);
    }
    if (tape.size + n > MOST_BYTES) {
      return tell(FULL);
    }
    for (int i = n - 1; i >= 0; i--) {
      tape.append((bytes >>> (8 * i)) & 255);
    }
    return tape.size;
  }

  public int wipe() {
    int had = tape.size;
    tape.size = 0;
    return had;
  }

  public int text() {
    startTrial();
    int items = tape.read(trial);
    tape.size = 0;
    if (items >= 0) {
      present.become(trial);
    }
    return items;
  }

  // ---- spots, sheets

  public int hold(int spot, int basin) {
    if (!within(spot, 0, SPOTS - 1) || (basin != NOTHING && !isBasin(basin))) {
      return tell(BEYOND);
    }
    present.spot[spot] = basin;
    return 1;
  }

  public int as(int spot, int kind) {
    if (!within(spot, 0, SPOTS - 1) || !Kinds.isKind(kind)) {
      return tell(BEYOND);
    }
    int basin = present.spot[spot];
    if (!isBasin(basin)) {
      return tell(MISSING);
    }
    if (!Kinds.isOf(present.kind[basin], kind)) {
      return tell(WRONG_KIND);
    }
    return basin;
  }

  public int sheet(int s, int bits, int n) {
    Sheet sheet = sheetAt(s);
    if (sheet == null || !(bits == 0 || bits == 8 || bits == 16 || bits == 32)) {
      return tell(BEYOND);
    }
    if (n < 0) {
      return tell(SIZE);
    }
    if (n > MOST_NUMBERS) {
      return tell(BEYOND);
    }
    sheet.begin(bits, bits == 0 ? 0 : n);
    return sheet.size;
  }

  public int write(int s, int i, int v) {
    Sheet sheet = sheetAt(s);
    if (sheet == null) {
      return tell(BEYOND);
    }
    if (sheet.isMissing()) {
      return tell(MISSING);
    }
    if (i < 0 || i >= sheet.size) {
      return tell(BEYOND);
    }
    sheet.numbers[i] = sheet.lowestBits(v);
    return 1;
  }

  public int copy(int s, int from, int t, int to, int n) {
    Sheet source = sheetAt(s);
    Sheet target = sheetAt(t);
    if (source == null || target == null) {
      return tell(BEYOND);
    }
    if (source.isMissing() || target.isMissing()) {
      return tell(MISSING);
    }
    if (source.bits != target.bits) {
      return tell(WRONG_KIND);
    }
    if (!source.has(from, n) || !target.has(to, n)) {
      return tell(BEYOND);
    }
    System.arraycopy(source.numbers, from, target.numbers, to, n);
    return n;
  }

  public int load(int s) {
    Sheet sheet = sheetAt(s);
    if (sheet == null) {
      return tell(BEYOND);
    }
    if (sheet.isMissing()) {
      return tell(MISSING);
    }
    int came = 0;
    for (int b = 0; b < present.basins && b < sheet.size; b++) {
      if (!within(sheet.numbers[b], 1, MOST_EDGE)) {
        break;
      }
      present.edge[b] = sheet.numbers[b];
      came++;
    }
    return came;
  }

  public int judge(int s, int basin) {
    Sheet sheet = sheetAt(s);
    if (sheet == null) {
      return tell(BEYOND);
    }
    if (sheet.isMissing()) {
      return tell(MISSING);
    }
    if (!isBasin(basin)) {
      return tell(BEYOND);
    }
    if (tooLate(sheet.size)) {
      return tell(STATE);
    }
    startTrial();
    for (int i = 0; i < sheet.size; i++) {
      flow.pass(trial, 1);
      if (flow.keeps[basin] != sheet.numbers[i]) {
        return 1 + i;
      }
    }
    return 0;
  }

  // ---- images

  public int image() {
    picture.become(present);
    pictured = true;
    return 1;
  }

  public int undo() {
    if (!pictured) {
      return tell(NONE);
    }
    present.become(picture);
    return present.hour;
  }

  public int tear() {
    int was = pictured ? 1 : 0;
    pictured = false;
    return was;
  }

  public int count(int what) {
    switch (what) {
      case 0:
        return present.hour;
      case 1:
        return present.basins;
      case 2:
        return present.sum(present.edge);
      case 3:
        return present.sum(present.pool);
      case 4:
        return present.spring;
      case 5:
        return tape.size;
      case 6:
        return present.z;
      case 7:
        return present.spotsInUse();
      default:
        return tell(BEYOND);
    }
  }

  public int status(int which) {
    if (!within(which, -1, FINDINGS - 1)) {
      return tell(BEYOND);
    }
    if (which >= 0) {
      return told[which];
    }
    int all = 0;
    for (int f = 0; f < FINDINGS; f++) {
      all += told[f];
    }
    return all;
  }

  // ---- helpers

  /** Counts a finding for status() and answers it. */
  private int tell(int finding) {
    int f = BEYOND - finding;
    if (f >= 0 && f < FINDINGS) {
      told[f]++;
    }
    return finding;
  }

  private static boolean within(int v, int least, int most) {
    return v >= least && v <= most;
  }

  private boolean isBasin(int b) {
    return b >= 0 && b < present.basins;
  }

  private boolean tooLate(int hoursMore) {
    return present.hour + hoursMore > MOST_HOUR;
  }

  private Sheet sheetAt(int s) {
    return within(s, 0, SHEETS - 1) ? sheets[s] : null;
  }

  private int put(int[] row, int basin, int v, int least, int most) {
    if (!within(v, least, most)) {
      return tell(BEYOND);
    }
    int was = row[basin];
    row[basin] = v;
    return was;
  }

  private void startTrial() {
    trial.become(present);
  }

  /** Cups that a house has got in the trial since it started. */
  private int gain(int b) {
    return trial.store[b] - present.store[b];
  }

  private void noteUsualGains(int n) {
    startTrial();
    flow.pass(trial, n);
    for (int b = 0; b < present.basins; b++) {
      usual[b] = gain(b);
    }
  }

  private void passAsKind(int basin, int kind, int n) {
    startTrial();
    trial.kind[basin] = kind;
    flow.pass(trial, n);
  }

  private boolean bothGain(int one, int other, int n) {
    startTrial();
    trial.above[one] = present.above[other];
    trial.above[other] = present.above[one];
    flow.pass(trial, n);
    return gain(one) > usual[one] && gain(other) > usual[other];
  }

  private int othersThatGain(int basin) {
    int others = 0;
    for (int b = 0; b < present.basins; b++) {
      if (b != basin && gain(b) > usual[b]) {
        others++;
      }
    }
    return others;
  }

  private int findingOfWeighedHours(int n) {
    if (!within(n, 1, MOST_WEIGHED)) {
      return BEYOND;
    }
    return tooLate(n) ? STATE : 0;
  }

  private int findingOfWeighing(int basin, int n) {
    return isBasin(basin) ? findingOfWeighedHours(n) : BEYOND;
  }

  private boolean eachKeeps(int v) {
    for (int b = 0; b < trial.basins; b++) {
      if (flow.keeps[b] < v) {
        return false;
      }
    }
    return true;
  }

  /** No lesser spring lets each basin keep v cups, though this one need not let it. */
  private int lowestSpringForAll(int v) {
    int lowest = 1;
    for (int b = 0; b < trial.basins; b++) {
      lowest = Math.max(lowest, lowestSpringFor(b, v));
    }
    return lowest;
  }

  /** Climbs from a basin to the first one: what must come at least, step by step. */
  private int lowestSpringFor(int basin, int v) {
    int coming = Kinds.leastComing(trial.kind[basin], v, 0);
    int b = basin;
    for (int step = 0; step < MOST_BASINS && b > 0 && coming <= MOST_SPRING; step++) {
      int above = trial.above[b];
      int edge = trial.edge[b];
      if (above < 0 || edge < 1) {
        break;
      }
      int going = (coming * trial.widthUnder(above) + edge - 1) / edge;
      coming = Kinds.leastComing(trial.kind[above], 0, going);
      b = above;
    }
    return coming;
  }

  /** What the kinds of basins do; a kind takes from the one above it what is not told of it. */
  private static final class Kinds {
    static final int BASIN = 0;
    static final int CHIPPED = 1;
    static final int LEAKING = 2;
    static final int HOLY = 3;
    static final int PIPED = 4;
    static final int DAMMED = 5;
    static final int FLOODED = 6;
    static final int LAST = 6;
    private static final int FLOOD = 100;

    private Kinds() {}

    static boolean isKind(int kind) {
      return kind >= 0 && kind <= LAST;
    }

    static boolean isOf(int kind, int wanted) {
      int k = kind;
      for (int step = 0; step <= LAST && k >= 0; step++) {
        if (k == wanted) {
          return true;
        }
        k = kindOver(k);
      }
      return false;
    }

    private static int kindOver(int kind) {
      switch (kind) {
        case CHIPPED:
        case LEAKING:
        case DAMMED:
          return BASIN;
        case HOLY:
          return CHIPPED;
        case PIPED:
          return LEAKING;
        case FLOODED:
          return DAMMED;
        default:
          return NOTHING;
      }
    }

    static int leaks(int kind, int c) {
      return tenthsLeaked(kind) * (c / 10);
    }

    static int tenthsLeaked(int kind) {
      switch (kind) {
        case LEAKING:
          return 1;
        case PIPED:
          return 2;
        default:
          return 0;
      }
    }

    static int keeps(int kind, int c) {
      switch (kind) {
        case CHIPPED:
          return 2 * c / 5;
        case HOLY:
          return 0;
        default:
          return c / 3;
      }
    }

    static int holds(int kind, int c, int pool) {
      switch (kind) {
        case FLOODED:
          return c > FLOOD ? 0 : Math.min(MOST_POOL - pool, c);
        case DAMMED:
          return Math.min(MOST_POOL - pool, c);
        default:
          return 0;
      }
    }

    /**
     * The least cups that must come to a basin with a full pool so that it keeps so many and so
     * many go on; above the greatest spring if no spring does. One cup more that comes is never
     * more than one cup more kept or going on, so that what is wanting may be leapt over.
     */
    static int leastComing(int kind, int keeping, int going) {
      int c = Math.max(keeping, going);
      for (int i = 0; i <= MOST_SPRING && c <= MOST_SPRING; i++) {
        int left = c - leaks(kind, c);
        int kept = keeps(kind, left);
        int wanting = Math.max(keeping - kept, going - (left - kept));
        if (wanting <= 0) {
          break;
        }
        c += wanting;
      }
      return c;
    }
  }

  /** All that an image keeps. */
  private static final class Fountain {
    final int[] kind;
    final int[] above;
    final int[] edge;
    final int[] pool;
    final int[] store;
    final int[] spot;
    int basins;
    int spring;
    int hour;
    int z;

    Fountain() {
      kind = new int[MOST_BASINS];
      above = new int[MOST_BASINS];
      edge = new int[MOST_BASINS];
      pool = new int[MOST_BASINS];
      store = new int[MOST_BASINS];
      spot = new int[SPOTS];
      for (int s = 0; s < SPOTS; s++) {
        spot[s] = NOTHING;
      }
      spring = 81;
      z = 1;
    }

    void become(Fountain other) {
      System.arraycopy(other.kind, 0, kind, 0, MOST_BASINS);
      System.arraycopy(other.above, 0, above, 0, MOST_BASINS);
      System.arraycopy(other.edge, 0, edge, 0, MOST_BASINS);
      System.arraycopy(other.pool, 0, pool, 0, MOST_BASINS);
      System.arraycopy(other.store, 0, store, 0, MOST_BASINS);
      System.arraycopy(other.spot, 0, spot, 0, SPOTS);
      basins = other.basins;
      spring = other.spring;
      hour = other.hour;
      z = other.z;
    }

    /** The number of the new basin; nothing is done if there are as many as may be. */
    int add(int newKind, int newAbove, int newEdge) {
      int b = basins;
      if (b < 0 || b >= MOST_BASINS) {
        return NOTHING;
      }
      kind[b] = newKind;
      above[b] = newAbove;
      edge[b] = newEdge;
      pool[b] = 0;
      store[b] = 0;
      basins++;
      return b;
    }

    int aboveOf(int b) {
      return b >= 0 && b < basins ? above[b] : NOTHING;
    }

    /** All edges of the basins below one at once, together. */
    int widthUnder(int basin) {
      int width = 0;
      for (int b = 0; b < basins; b++) {
        if (above[b] == basin) {
          width += edge[b];
        }
      }
      return width;
    }

    int sum(int[] row) {
      int all = 0;
      for (int b = 0; b < basins; b++) {
        all += row[b];
      }
      return all;
    }

    int spotsInUse() {
      int used = 0;
      for (int s = 0; s < SPOTS; s++) {
        if (spot[s] != NOTHING) {
          used++;
        }
      }
      return used;
    }

    int draw() {
      z = z * 1103515245 + 12345;
      return z >>> 8;
    }

    void take(Flow flow) {
      for (int b = 0; b < basins; b++) {
        store[b] += flow.keeps[b];
        pool[b] += flow.holds[b];
      }
      hour++;
    }
  }

  /** What an hour does, cup by cup. */
  private static final class Flow {
    final int[] comes;
    final int[] keeps;
    final int[] holds;
    private final int[] goesOn;
    private final int[] width;
    int kept;
    int leaked;
    int ranOff;
    /** What runs off though there are basins below. */
    int uneven;
    int keptInAll;
    int leakedInAll;
    int ranOffInAll;

    Flow() {
      comes = new int[MOST_BASINS];
      keeps = new int[MOST_BASINS];
      holds = new int[MOST_BASINS];
      goesOn = new int[MOST_BASINS];
      width = new int[MOST_BASINS];
    }

    /** Hours go over a fountain. */
    void pass(Fountain f, int n) {
      keptInAll = 0;
      leakedInAll = 0;
      ranOffInAll = 0;
      for (int i = 0; i < n; i++) {
        reckon(f);
        f.take(this);
        keptInAll += kept;
        leakedInAll += leaked;
        ranOffInAll += ranOff;
      }
    }

    /** What an hour would do; the fountain stays as it is. */
    void reckon(Fountain f) {
      kept = 0;
      leaked = 0;
      ranOff = 0;
      uneven = 0;
      measure(f);
      for (int b = 0; b < f.basins; b++) {
        comes[b] = comingTo(f, b);
        divide(f, b);
      }
    }

    private void measure(Fountain f) {
      for (int b = 0; b < f.basins; b++) {
        width[b] = 0;
        int above = f.above[b];
        if (above >= 0 && above < b) {
          width[above] += f.edge[b];
        }
      }
    }

    /** What comes to a basin; it counts no longer as running off above. */
    private int comingTo(Fountain f, int b) {
      int above = f.above[b];
      if (above < 0 || above >= b) {
        return f.spring;
      }
      int e = width[above];
      if (e <= 0) {
        return 0;
      }
      int part = goesOn[above] * f.edge[b] / e;
      ranOff -= part;
      uneven -= part;
      return part;
    }

    private void divide(Fountain f, int b) {
      int kind = f.kind[b];
      int leaks = Kinds.leaks(kind, comes[b]);
      int left = comes[b] - leaks;
      keeps[b] = Kinds.keeps(kind, left);
      left -= keeps[b];
      holds[b] = Kinds.holds(kind, left, f.pool[b]);
      left -= holds[b];
      goesOn[b] = left;
      leaked += leaks;
      kept += keeps[b];
      ranOff += left;
      if (width[b] > 0) {
        uneven += left;
      }
    }
  }

  /** The parts of the spring that are kept and that go on, as fractions in lowest terms. */
  private static final class Shares {
    private static final long LARGEST = 100000000000L;
    final long[] keptTop;
    final long[] keptBottom;
    final boolean[] keptFits;
    final long[] onTop;
    final long[] onBottom;
    final boolean[] onFits;
    private long top;
    private long bottom;

    Shares() {
      keptTop = new long[MOST_BASINS];
      keptBottom = new long[MOST_BASINS];
      keptFits = new boolean[MOST_BASINS];
      onTop = new long[MOST_BASINS];
      onBottom = new long[MOST_BASINS];
      onFits = new boolean[MOST_BASINS];
      top = 1;
      bottom = 1;
    }

    void reckon(Fountain f) {
      for (int b = 0; b < f.basins; b++) {
        boolean fits = comingTo(f, b) && multiply(10 - Kinds.tenthsLeaked(f.kind[b]), 10);
        long leftTop = top;
        long leftBottom = bottom;
        fits = fits && keep(f.kind[b]);
        keptTop[b] = top;
        keptBottom[b] = bottom;
        keptFits[b] = fits;
        top = leftTop;
        bottom = leftBottom;
        fits = fits && goOn(f.kind[b]);
        onTop[b] = top;
        onBottom[b] = bottom;
        onFits[b] = fits;
      }
    }

    private boolean comingTo(Fountain f, int b) {
      int above = f.above[b];
      if (above < 0 || above >= b) {
        top = 1;
        bottom = 1;
        return true;
      }
      top = onTop[above];
      bottom = onBottom[above];
      return onFits[above] && multiply(f.edge[b], f.widthUnder(above));
    }

    private boolean keep(int kind) {
      switch (kind) {
        case Kinds.CHIPPED:
          return multiply(2, 5);
        case Kinds.HOLY:
          return multiply(0, 1);
        default:
          return multiply(1, 3);
      }
    }

    private boolean goOn(int kind) {
      switch (kind) {
        case Kinds.CHIPPED:
          return multiply(3, 5);
        case Kinds.HOLY:
          return true;
        default:
          return multiply(2, 3);
      }
    }

    /** Whether the product, in lowest terms, is not too large. */
    private boolean multiply(int above, int below) {
      top *= above;
      bottom *= below;
      long common = commonDivisor(top, bottom);
      if (common > 0) {
        top /= common;
        bottom /= common;
      }
      return top <= LARGEST && bottom <= LARGEST;
    }

    private static long commonDivisor(long one, long other) {
      long a = one;
      long b = other;
      for (int i = 0; i < 200 && b != 0; i++) {
        long rest = a % b;
        a = b;
        b = rest;
      }
      return a;
    }

    /** 1, 0 or -1; by whole parts and turned rests, as crosswise products would not fit. */
    int order(int one, int other) {
      long a = keptTop[one];
      long b = keptBottom[one];
      long c = keptTop[other];
      long d = keptBottom[other];
      int sign = 1;
      for (int i = 0; i < 200 && b > 0 && d > 0; i++) {
        if (a / b != c / d) {
          return a / b > c / d ? sign : -sign;
        }
        long rest = a % b;
        a = b;
        b = rest;
        rest = c % d;
        c = d;
        d = rest;
        sign = -sign;
      }
      // A rest of nothing turned is more than any number.
      if (b == d) {
        return 0;
      }
      return b == 0 ? sign : -sign;
    }
  }

  /** The sets of chipped basins that explain a sheet. */
  private static final class ChipSearch {
    int sets;
    int least;
    int inAll;
    int inAny;

    void look(Fountain f, Flow flow, Sheet sheet) {
      sets = 0;
      least = NOTHING;
      inAny = 0;
      inAll = (1 << f.basins) - 1;
      for (int set = 0; set < 1 << f.basins; set++) {
        for (int b = 0; b < f.basins; b++) {
          f.kind[b] = ((set >> b) & 1) == 1 ? Kinds.CHIPPED : Kinds.BASIN;
        }
        flow.reckon(f);
        if (explains(f, flow, sheet)) {
          note(set);
        }
      }
    }

    private static boolean explains(Fountain f, Flow flow, Sheet sheet) {
      for (int b = 0; b < f.basins && b < sheet.size; b++) {
        if (flow.keeps[b] != sheet.numbers[b]) {
          return false;
        }
      }
      return true;
    }

    private void note(int set) {
      if (sets == 0) {
        least = set;
      }
      sets++;
      inAll &= set;
      inAny |= set;
    }
  }

  private static final class Sheet {
    final int[] numbers;
    int bits;
    int size;

    Sheet() {
      numbers = new int[MOST_NUMBERS];
    }

    boolean isMissing() {
      return bits == 0;
    }

    void begin(int newBits, int newSize) {
      bits = newBits;
      size = newSize;
      for (int i = 0; i < MOST_NUMBERS; i++) {
        numbers[i] = 0;
      }
    }

    boolean has(int from, int n) {
      return from >= 0 && n >= 0 && from <= size && n <= size - from;
    }

    int lowestBits(int v) {
      switch (bits) {
        case 8:
          return (byte) v;
        case 16:
          return (short) v;
        default:
          return v;
      }
    }
  }

  /** Bytes, and the reader of the text that they are; a fault is always where a token starts. */
  private static final class Tape {
    private static final int END = 0;
    private static final int WORD = 1;
    private static final int NUMBER = 2;
    private static final int SIGN = 3;
    private static final int ODD = 4;
    private static final int BLANK = 5;
    private static final int LARGEST = 99999;
    private final int[] bytes;
    int size;
    private int token;
    private int start;
    private int end;
    /** The number that was read last. */
    private int number;

    Tape() {
      bytes = new int[MOST_BYTES];
    }

    void append(int b) {
      if (size >= 0 && size < MOST_BYTES) {
        bytes[size] = b;
        size++;
      }
    }

    /** How many items the fountain has got, or -1 less the place of the fault. */
    int read(Fountain f) {
      end = 0;
      advance();
      for (int items = 1; items <= MOST_BYTES; items++) {
        if (!readItem(f)) {
          break;
        }
        if (token == END) {
          return items;
        }
        if (token != SIGN) {
          break;
        }
        advance();
      }
      return -1 - start;
    }

    private boolean readItem(Fountain f) {
      if (isWord("spring")) {
        return readSpring(f);
      }
      int kind = kindTold();
      if (kind == NOTHING || f.basins >= MOST_BASINS) {
        return false;
      }
      advance();
      return readBasin(f, kind);
    }

    private boolean readSpring(Fountain f) {
      advance();
      if (!readNumber(0, LARGEST)) {
        return false;
      }
      f.spring = number;
      return true;
    }

    private boolean readBasin(Fountain f, int kind) {
      int above = NOTHING;
      if (f.basins > 0) {
        if (!isWord("below")) {
          return false;
        }
        advance();
        if (!readNumber(0, f.basins - 1)) {
          return false;
        }
        above = number;
      }
      int edge = 1;
      if (isWord("edge")) {
        advance();
        if (!readNumber(1, MOST_EDGE)) {
          return false;
        }
        edge = number;
      }
      f.add(kind, above, edge);
      return true;
    }

    private boolean readNumber(int least, int most) {
      if (token != NUMBER) {
        return false;
      }
      number = valueOfDigits();
      if (number < least || number > most) {
        return false;
      }
      advance();
      return true;
    }

    /** A number that is too large stays at one more than the largest. */
    private int valueOfDigits() {
      int value = 0;
      for (int i = start; i < end; i++) {
        value = Math.min(value * 10 + byteAt(i) - '0', LARGEST + 1);
      }
      return value;
    }

    private int kindTold() {
      for (int kind = 0; kind <= Kinds.LAST; kind++) {
        if (isWord(wordOf(kind))) {
          return kind;
        }
      }
      return NOTHING;
    }

    private static String wordOf(int kind) {
      switch (kind) {
        case Kinds.CHIPPED:
          return "chipped";
        case Kinds.LEAKING:
          return "leaking";
        case Kinds.HOLY:
          return "holy";
        case Kinds.PIPED:
          return "piped";
        case Kinds.DAMMED:
          return "dammed";
        case Kinds.FLOODED:
          return "flooded";
        default:
          return "basin";
      }
    }

    private boolean isWord(String word) {
      if (token != WORD || word.length() != end - start) {
        return false;
      }
      for (int i = 0; i < word.length(); i++) {
        if (byteAt(start + i) != word.charAt(i)) {
          return false;
        }
      }
      return true;
    }

    private void advance() {
      start = end;
      for (int i = 0; i < MOST_BYTES && beginsAt(start) == BLANK; i++) {
        start++;
      }
      end = start;
      token = beginsAt(start);
      if (token != END) {
        end++;
      }
      boolean lasting = token == WORD || token == NUMBER;
      for (int i = 0; i < MOST_BYTES && lasting && beginsAt(end) == token; i++) {
        end++;
      }
    }

    /** The kind of token that would begin here, if none had begun before. */
    private int beginsAt(int i) {
      int b = byteAt(i);
      if (b == NOTHING) {
        return END;
      }
      if (b >= 'a' && b <= 'z') {
        return WORD;
      }
      if (b >= '0' && b <= '9') {
        return NUMBER;
      }
      if (b == ' ') {
        return BLANK;
      }
      return b == ';' ? SIGN : ODD;
    }

    private int byteAt(int i) {
      return i >= 0 && i < size && i < MOST_BYTES ? bytes[i] : NOTHING;
    }
  }
}
