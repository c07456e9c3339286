/**
 * A play at Christmas: PARTS of KINDS, CHILDREN with WISHES, the CAST by which most is come to,
 * LOTS, laws in TEXTS, VOICES, SHEETS and an IMAGE. ../shared/DOC.md tells what each call answers.
 *
 * <p>All rows are made by the constructor and used again: no call makes an object.
 */
public final class PlayParts {
  private static final int LOW = -1000000000;
  private static final int BEYOND = 1;
  private static final int NONE = 2;
  private static final int STATE = 3;
  private static final int FULL = 4;
  private static final int UNLIKE = 5;
  private static final int PARTED = 6;
  private static final int ERRORS = 7;

  private static final int PART = 0;
  private static final int SPEAKER = 1;
  private static final int CROWN = 2;
  private static final int BEAST = 3;
  private static final int SINGER = 4;
  private static final int CAMEL = 5;
  private static final int STAR = 6;
  private static final int KINDS = 7;
  /** The KIND above each KIND; none is above PART. */
  private static final int[] ABOVE = {-1, 0, 0, 0, 1, 2, 0};

  private static final int MOST_PARTS = 7;
  private static final int MOST_CHILDREN = 7;
  private static final int WISHES = 3;
  private static final int LAST_YEAR = 9999;
  private static final int MOST_JOY = 99999;
  private static final int MOST_LOOSE = 20;
  private static final int MOST_WAITING = 24;
  private static final int SEEDS = 256;
  private static final int NOBODY = -1;
  private static final int NO_PART = -1;

  private static final int USES = 2;
  private static final int USE_WORTH = 0;
  private static final int USE_JOY = 1;
  private static final int TAPE_LENGTH = 60;

  private static final int SHEETS = 4;
  private static final int SHEET_LENGTH = 24;

  private final Stage now = new Stage();
  private final Stage kept = new Stage();
  private int images;
  private final Reader reader = new Reader();
  private final Caster caster = new Caster();
  private final Liar liar = new Liar();
  private final Voices voices = new Voices();
  private final Sheet[] sheets = new Sheet[SHEETS];
  private final int[] drawn = new int[MOST_CHILDREN];
  private final int[] errors = new int[ERRORS];

  public PlayParts() {
    for (int i = 0; i < SHEETS; i++) {
      sheets[i] = new Sheet();
    }
  }

  // ---- parts, children

  public int part(int km) {
    if (!isKindAndNumber(km)) {
      return fail(BEYOND);
    }
    if (now.partCount >= MOST_PARTS) {
      return fail(FULL);
    }
    now.partCount++;
    now.parts[now.partCount - 1].turnInto(km);
    return now.partCount - 1;
  }

  public int partIs(int part, int what) {
    if (!now.hasPart(part) || what < 0 || what > 4) {
      return fail(BEYOND);
    }
    switch (what) {
      case 0:
        return now.parts[part].kind;
      case 1:
        return now.parts[part].m;
      case 2:
        return now.parts[part].lines(now.year);
      case 3:
        return now.holderOf(part);
      default:
        return now.childrenFor(part);
    }
  }

  public int become(int part, int km) {
    if (!now.hasPart(part) || !isKindAndNumber(km)) {
      return fail(BEYOND);
    }
    int old = now.parts[part].kind;
    now.parts[part].turnInto(km);
    return old;
  }

  public int as(int part, int kind) {
    if (!now.hasPart(part) || kind < 0 || kind >= KINDS) {
      return fail(BEYOND);
    }
    if (!now.parts[part].isOf(kind)) {
      return fail(UNLIKE);
    }
    return now.parts[part].m;
  }

  public int child(int voice, int size, int shy) {
    if (!isWithin(voice, 0, 9) || !isWithin(size, 1, 9) || !isWithin(shy, 0, 1)) {
      return fail(BEYOND);
    }
    if (now.childCount >= MOST_CHILDREN) {
      return fail(FULL);
    }
    now.childCount++;
    now.children[now.childCount - 1].startAs(voice, size, shy);
    return now.childCount - 1;
  }

  public int childIs(int child, int what) {
    if (!now.hasChild(child) || what < 0 || what > 9) {
      return fail(BEYOND);
    }
    if (what == 9) {
      return now.joyOf(child);
    }
    return now.children[child].valueOf(what);
  }

  public int wishes(int child, int k, int part) {
    if (!now.hasChild(child) || !isWithin(k, 0, WISHES - 1) || !now.hasPartOrNone(part)) {
      return fail(BEYOND);
    }
    int old = now.children[child].wish[k];
    now.children[child].wish[k] = part;
    return old;
  }

  public int falls(int child, int is) {
    if (!now.hasChild(child) || !isWithin(is, 0, 1)) {
      return fail(BEYOND);
    }
    int old = now.children[child].ill;
    now.children[child].ill = is;
    return old;
  }

  public int worth(int child, int part) {
    if (!now.hasChild(child) || !now.hasPart(part)) {
      return fail(BEYOND);
    }
    return now.worthOf(child, part);
  }

  public int cast(int child, int part) {
    if (!now.hasChild(child) || !now.hasPartOrNone(part)) {
      return fail(BEYOND);
    }
    if (part != NO_PART) {
      int holder = now.holderOf(part);
      if (!now.mayPlay(child, part) || (holder != NOBODY && holder != child)) {
        return fail(STATE);
      }
    }
    int old = now.children[child].has;
    now.children[child].has = part;
    return old;
  }

  // ---- texts

  public int feed(long word, int n) {
    if (!isWithin(n, 1, 8)) {
      return fail(BEYOND);
    }
    if (now.tapeCount + n > TAPE_LENGTH) {
      return fail(FULL);
    }
    for (int i = 0; i < n; i++) {
      now.tape[now.tapeCount + i] = (int) (word >>> (8 * i)) & 255;
    }
    now.tapeCount += n;
    return now.tapeCount;
  }

  public int text(int use) {
    if (!isUse(use)) {
      return fail(BEYOND);
    }
    int fault = reader.read(now.tape, now.tapeCount, use);
    now.tapeCount = 0;
    if (fault >= 0) {
      return -10 - fault;
    }
    now.texts[use].copyFrom(reader.draft);
    return 1;
  }

  public int untell(int use) {
    if (!isUse(use)) {
      return fail(BEYOND);
    }
    int was = now.texts[use].length > 0 ? 1 : 0;
    now.texts[use].length = 0;
    return was;
  }

  public int law(int use, int a, int b, int c) {
    if (!isUse(use)) {
      return fail(BEYOND);
    }
    return now.given(use, a, b, c);
  }

  // ---- years

  public int play() {
    if (now.year >= LAST_YEAR) {
      return fail(STATE);
    }
    return now.theyPlay();
  }

  public int lots() {
    return now.castByLots(drawn);
  }

  public int loose(int n) {
    if (!isWithin(n, 1, MOST_LOOSE)) {
      return fail(BEYOND);
    }
    if (now.year + n > LAST_YEAR) {
      return fail(STATE);
    }
    for (int i = 0; i < n; i++) {
      now.castByLots(drawn);
      now.theyPlay();
    }
    return now.joy;
  }

  public int seed(int v) {
    int old = now.z;
    now.z = v;
    return old;
  }

  // ---- the best cast

  public int best(int what) {
    if (!isWithin(what, -1, MOST_CHILDREN - 1)) {
      return fail(BEYOND);
    }
    if (what >= now.childCount) {
      return fail(NONE);
    }
    caster.weighByWorth(now);
    caster.workOut();
    if (what < 0) {
      return caster.mostWithout(0);
    }
    caster.assignWithout(0);
    return caster.given[what];
  }

  public int wished() {
    caster.weighByWishes(now);
    caster.workOut();
    return caster.mostWithout(0);
  }

  public int without(int child) {
    if (!now.hasChild(child)) {
      return fail(BEYOND);
    }
    caster.weighByWorth(now);
    caster.workOut();
    int withThatOne = caster.mostWithout(0);
    caster.leaveOut(child);
    caster.workOut();
    return withThatOne - caster.mostWithout(0);
  }

  public int lies(int child, int what) {
    if (!now.hasChild(child) || !isWithin(what, 0, 1)) {
      return fail(BEYOND);
    }
    caster.weighByWorth(now);
    liar.tryAll(now, caster, child);
    return what == 0 ? liar.which : liar.more;
  }

  public int odds(int child, int part) {
    if (!now.hasChild(child) || !isWithin(part, 0, 1)) {
      return fail(BEYOND);
    }
    int may = now.partsFor(child);
    int all = Integer.bitCount(may);
    if (all == 0) {
      return fail(STATE);
    }
    int good = Integer.bitCount(may & now.children[child].wishSet());
    int common = commonDivisor(all, good);
    if (common == 0) {
      return 0;
    }
    return part == 0 ? good / common : all / common;
  }

  public int fits(int sheet, int what) {
    if (!isSheet(sheet) || !isWithin(what, 0, 1)) {
      return fail(BEYOND);
    }
    if (sheets[sheet].bits == 0) {
      return fail(NONE);
    }
    int many = 0;
    int least = -1;
    for (int z = 0; z < SEEDS; z++) {
      now.drawLots(z, drawn);
      if (sheets[sheet].startsLike(drawn, now.childCount)) {
        many++;
        least = least < 0 ? z : least;
      }
    }
    if (what == 0) {
      return many;
    }
    return least < 0 ? fail(NONE) : least;
  }

  // ---- voices, sheets, images, what is told

  public int voice(int part, int voice, int x) {
    if (!now.hasPart(part) || !isWithin(voice, 0, 3)) {
      return fail(BEYOND);
    }
    int answer = voices.speak(part, now.parts[part], voice, x);
    return voices.parted ? fail(PARTED) : answer;
  }

  public int body(int i) {
    if (i < 0 || i >= voices.traceCount) {
      return fail(NONE);
    }
    return voices.trace[i];
  }

  public int sheet(int sheet, int bits, int n) {
    if (!isSheet(sheet) || (bits != 0 && bits != 8 && bits != 16 && bits != 32)) {
      return fail(BEYOND);
    }
    if (bits != 0 && n < 0) {
      return fail(STATE);
    }
    if (bits != 0 && n > SHEET_LENGTH) {
      return fail(BEYOND);
    }
    sheets[sheet].clearTo(bits, bits == 0 ? 0 : n);
    return 1;
  }

  public int put(int sheet, int i, int v) {
    if (!isSheet(sheet)) {
      return fail(BEYOND);
    }
    if (sheets[sheet].bits == 0) {
      return fail(NONE);
    }
    if (i < 0 || i >= sheets[sheet].count) {
      return fail(BEYOND);
    }
    sheets[sheet].row[i] = sheets[sheet].lowestBits(v);
    return 1;
  }

  public int move(int sheet, int i, int other, int j, int n) {
    if (!isSheet(sheet) || !isSheet(other)) {
      return fail(BEYOND);
    }
    Sheet from = sheets[sheet];
    Sheet to = sheets[other];
    if (from.bits == 0 || to.bits == 0) {
      return fail(NONE);
    }
    if (from.bits != to.bits) {
      return fail(UNLIKE);
    }
    if (!from.hasRun(i, n) || !to.hasRun(j, n)) {
      return fail(BEYOND);
    }
    System.arraycopy(from.row, i, to.row, j, n);
    return n;
  }

  public int casts(int sheet) {
    if (!isSheet(sheet)) {
      return fail(BEYOND);
    }
    if (sheets[sheet].bits == 0) {
      return fail(NONE);
    }
    return now.castByRow(sheets[sheet].row, sheets[sheet].count);
  }

  public int judge(int sheet) {
    if (!isSheet(sheet)) {
      return fail(BEYOND);
    }
    if (sheets[sheet].bits == 0) {
      return fail(NONE);
    }
    return now.rightInRow(sheets[sheet].row, sheets[sheet].count);
  }

  public int image() {
    kept.copyFrom(now);
    images++;
    return images;
  }

  public int restore() {
    if (images == 0) {
      return fail(NONE);
    }
    now.copyFrom(kept);
    return now.year;
  }

  public int tell(int v) {
    if (now.waitingCount >= MOST_WAITING) {
      return fail(FULL);
    }
    now.waiting[now.waitingCount] = v;
    now.waitingCount++;
    return now.waitingCount;
  }

  public int check() {
    int count = now.waitingCount;
    now.waitingCount = 0;
    for (int i = 0; i < count; i++) {
      if (i >= now.childCount || now.waiting[i] != now.joyOf(i)) {
        return 1 + i;
      }
    }
    return 0;
  }

  public int count(int what) {
    switch (what) {
      case 0:
        return now.partCount;
      case 1:
        return now.childCount;
      case 2:
        return now.year;
      case 3:
        return now.joy;
      case 4:
        return now.tapeCount;
      case 5:
        return now.waitingCount;
      case 6:
        return voices.traceCount;
      case 7:
        return now.z;
      default:
        return fail(BEYOND);
    }
  }

  public int told(int k) {
    if (k < BEYOND || k > PARTED) {
      return fail(BEYOND);
    }
    return errors[k];
  }

  // ---- what several calls ask

  /** Answers the ERROR, which told() counts. */
  private int fail(int k) {
    errors[k]++;
    return LOW - k;
  }

  private static boolean isWithin(int v, int least, int most) {
    return v >= least && v <= most;
  }

  private static boolean isKindAndNumber(int km) {
    return isWithin(km, 0, 10 * KINDS - 1);
  }

  private static boolean isUse(int use) {
    return isWithin(use, 0, USES - 1);
  }

  private static boolean isSheet(int sheet) {
    return isWithin(sheet, 0, SHEETS - 1);
  }

  private static int commonDivisor(int a, int b) {
    int big = a;
    int small = b;
    for (int i = 0; i < 100 && small != 0; i++) {
      int rest = big % small;
      big = small;
      small = rest;
    }
    return big;
  }

  private static int held(int v, int least, int most) {
    return Math.max(least, Math.min(most, v));
  }

  /** A PART. */
  private static final class Role {
    private int kind;
    private int m;

    void turnInto(int km) {
      kind = km / 10;
      m = km % 10;
    }

    void copyFrom(Role other) {
      kind = other.kind;
      m = other.m;
    }

    boolean isOf(int wanted) {
      int above = kind;
      for (int i = 0; i < KINDS && above >= 0 && above < KINDS; i++) {
        if (above == wanted) {
          return true;
        }
        above = ABOVE[above];
      }
      return false;
    }

    boolean suits(Child one) {
      if (one.ill != 0) {
        return false;
      }
      switch (kind) {
        case SPEAKER:
          return one.voice >= m;
        case CROWN:
          return one.size <= m;
        case SINGER:
          return one.voice >= m && one.shy == 0;
        case CAMEL:
          return one.size <= m && one.size > m / 2;
        case STAR:
          return one.shy == 1 || m > 4;
        default:
          return true;
      }
    }

    int lines(int year) {
      switch (kind) {
        case PART:
          return m;
        case SPEAKER:
          return 2 * m + 1;
        case CROWN:
          return m / 2;
        case SINGER:
          return 2 * m + 1 + year % 3;
        case CAMEL:
          return m / 2 + 1;
        default:
          return 0;
      }
    }
  }

  /** One of the CHILDREN. */
  private static final class Child {
    private int voice;
    private int size;
    private int shy;
    private int ill;
    private int last;
    private int has;
    private final int[] wish = new int[WISHES];

    void startAs(int itsVoice, int itsSize, int itsShyness) {
      voice = itsVoice;
      size = itsSize;
      shy = itsShyness;
      ill = 0;
      last = NO_PART;
      has = NO_PART;
      for (int k = 0; k < WISHES; k++) {
        wish[k] = NO_PART;
      }
    }

    void copyFrom(Child other) {
      voice = other.voice;
      size = other.size;
      shy = other.shy;
      ill = other.ill;
      last = other.last;
      has = other.has;
      System.arraycopy(other.wish, 0, wish, 0, WISHES);
    }

    int valueOf(int what) {
      switch (what) {
        case 0:
          return voice;
        case 1:
          return size;
        case 2:
          return shy;
        case 3:
          return ill;
        case 4:
          return last;
        case 5:
          return has;
        default:
          int k = what - 6;
          return k >= 0 && k < WISHES ? wish[k] : NO_PART;
      }
    }

    int dear(int part) {
      for (int k = 0; k < WISHES; k++) {
        if (wish[k] == part) {
          return WISHES - k;
        }
      }
      return 0;
    }

    int wishSet() {
      int set = 0;
      for (int k = 0; k < WISHES; k++) {
        if (wish[k] != NO_PART) {
          set |= 1 << wish[k];
        }
      }
      return set;
    }
  }

  /** All that an IMAGE keeps. */
  private static final class Stage {
    private final Role[] parts = new Role[MOST_PARTS];
    private int partCount;
    private final Child[] children = new Child[MOST_CHILDREN];
    private int childCount;
    private int year;
    private int joy;
    private int z = 1;
    private final int[] tape = new int[TAPE_LENGTH];
    private int tapeCount;
    private final Text[] texts = new Text[USES];
    private final int[] waiting = new int[MOST_WAITING];
    private int waitingCount;

    Stage() {
      for (int i = 0; i < MOST_PARTS; i++) {
        parts[i] = new Role();
      }
      for (int i = 0; i < MOST_CHILDREN; i++) {
        children[i] = new Child();
      }
      for (int i = 0; i < USES; i++) {
        texts[i] = new Text();
      }
    }

    void copyFrom(Stage other) {
      for (int i = 0; i < MOST_PARTS; i++) {
        parts[i].copyFrom(other.parts[i]);
      }
      for (int i = 0; i < MOST_CHILDREN; i++) {
        children[i].copyFrom(other.children[i]);
      }
      for (int i = 0; i < USES; i++) {
        texts[i].copyFrom(other.texts[i]);
      }
      partCount = other.partCount;
      childCount = other.childCount;
      year = other.year;
      joy = other.joy;
      z = other.z;
      System.arraycopy(other.tape, 0, tape, 0, TAPE_LENGTH);
      tapeCount = other.tapeCount;
      System.arraycopy(other.waiting, 0, waiting, 0, MOST_WAITING);
      waitingCount = other.waitingCount;
    }

    boolean hasPart(int part) {
      return part >= 0 && part < partCount;
    }

    boolean hasPartOrNone(int part) {
      return part == NO_PART || hasPart(part);
    }

    boolean hasChild(int child) {
      return child >= 0 && child < childCount;
    }

    boolean mayPlay(int child, int part) {
      return parts[part].suits(children[child]);
    }

    int holderOf(int part) {
      for (int i = 0; i < childCount; i++) {
        if (children[i].has == part) {
          return i;
        }
      }
      return NOBODY;
    }

    int childrenFor(int part) {
      int set = 0;
      for (int i = 0; i < childCount; i++) {
        if (mayPlay(i, part)) {
          set |= 1 << i;
        }
      }
      return set;
    }

    int partsFor(int child) {
      int set = 0;
      for (int i = 0; i < partCount; i++) {
        if (mayPlay(child, i)) {
          set |= 1 << i;
        }
      }
      return set;
    }

    /** What a USE gives with its NAMES as a, b, c. */
    int given(int use, int a, int b, int c) {
      boolean byText = texts[use].length > 0;
      if (use == USE_WORTH) {
        return held(byText ? texts[use].workOut(a, b, c) : 10 * a, 0, 99);
      }
      return held(byText ? texts[use].workOut(a, b, c) : a, -99, 99);
    }

    int worthOf(int child, int part) {
      Child one = children[child];
      return given(USE_WORTH, one.dear(part), one.last == part ? 1 : 0, one.voice);
    }

    int worthIfDear(int child, int part, int dear) {
      Child one = children[child];
      return given(USE_WORTH, dear, one.last == part ? 1 : 0, one.voice);
    }

    int joyOf(int child) {
      Child one = children[child];
      int worth = one.has == NO_PART ? 0 : worthOf(child, one.has);
      return given(USE_JOY, worth, one.shy, year % 7);
    }

    int theyPlay() {
      int together = 0;
      for (int i = 0; i < childCount; i++) {
        together += joyOf(i);
      }
      for (int i = 0; i < childCount; i++) {
        if (children[i].has != NO_PART) {
          children[i].last = children[i].has;
        }
        children[i].has = NO_PART;
      }
      joy = held(joy + together, -MOST_JOY, MOST_JOY);
      year++;
      return together;
    }

    /** LOTS from a z on, only thought: what each would have comes to the row; the z behind them. */
    int drawLots(int from, int[] row) {
      int drawnZ = from;
      int taken = 0;
      for (int i = 0; i < childCount && i < row.length; i++) {
        int free = partsFor(i) & ~taken;
        int many = Integer.bitCount(free);
        row[i] = NO_PART;
        if (many > 0) {
          drawnZ = drawnZ * 1103515245 + 12345;
          row[i] = partAt(free, (drawnZ >>> 8) % many);
          taken |= 1 << row[i];
        }
      }
      return drawnZ;
    }

    private static int partAt(int set, int place) {
      int ahead = place;
      for (int i = 0; i < MOST_PARTS; i++) {
        if ((set >> i & 1) != 0) {
          if (ahead == 0) {
            return i;
          }
          ahead--;
        }
      }
      return NO_PART;
    }

    /** LOTS, with a row to draw into: who HAS a PART then, as a set. */
    int castByLots(int[] row) {
      z = drawLots(z, row);
      int set = 0;
      for (int i = 0; i < childCount && i < row.length; i++) {
        children[i].has = row[i];
        if (row[i] != NO_PART) {
          set |= 1 << i;
        }
      }
      return set;
    }

    int castByRow(int[] row, int count) {
      for (int i = 0; i < childCount; i++) {
        children[i].has = NO_PART;
      }
      for (int i = 0; i < count && i < row.length; i++) {
        if (i >= childCount || !hasPartOrNone(row[i])) {
          return i;
        }
        if (row[i] != NO_PART && (!mayPlay(i, row[i]) || holderOf(row[i]) != NOBODY)) {
          return i;
        }
        children[i].has = row[i];
      }
      return count;
    }

    int rightInRow(int[] row, int count) {
      for (int i = 0; i < count && i < row.length; i++) {
        if (i >= childCount || children[i].has != row[i]) {
          return i;
        }
      }
      return count;
    }
  }

  /**
   * A TEXT, its operators behind what they work on; of length 0: none. A code of 0 or more is a
   * NUMBER, -1 to -3 are the NAMES in order, one below is the sign of an operator, negated.
   */
  private static final class Text {
    private final int[] codes = new int[TAPE_LENGTH];
    private int length;
    private final int[] stack = new int[TAPE_LENGTH];

    void add(int code) {
      if (length < TAPE_LENGTH) {
        codes[length] = code;
        length++;
      }
    }

    void copyFrom(Text other) {
      System.arraycopy(other.codes, 0, codes, 0, TAPE_LENGTH);
      length = other.length;
    }

    int workOut(int a, int b, int c) {
      int top = -1;
      for (int i = 0; i < length; i++) {
        int code = codes[i];
        if (code >= -3 && top + 1 < TAPE_LENGTH) {
          top++;
          stack[top] = code >= 0 ? code : named(code, a, b, c);
        } else if (code == -'!' && top >= 0) {
          stack[top] = stack[top] == 0 ? 1 : 0;
        } else if (top >= 1) {
          top--;
          stack[top] = apply(-code, stack[top], stack[top + 1]);
        }
      }
      return top >= 0 ? stack[top] : 0;
    }

    private static int named(int code, int a, int b, int c) {
      if (code == -1) {
        return a;
      }
      return code == -2 ? b : c;
    }

    private static int apply(int sign, int left, int right) {
      switch (sign) {
        case '|':
          return left != 0 || right != 0 ? 1 : 0;
        case '&':
          return left != 0 && right != 0 ? 1 : 0;
        case '<':
          return left < right ? 1 : 0;
        case '=':
          return left == right ? 1 : 0;
        case '>':
          return left > right ? 1 : 0;
        case '+':
          return left + right;
        case '-':
          return left - right;
        case '*':
          return left * right;
        case '/':
          return right == 0 ? 0 : left / right;
        default:
          return right == 0 ? 0 : left % right;
      }
    }
  }

  /** Reads TEXTS from THE TAPE. */
  private static final class Reader {
    private static final int COMPARISON = 2;
    private static final int FACTOR = 5;
    private static final int MOST_OPEN = 5;
    private static final int MOST_DIGITS = 4;
    private static final int THE_END = -1;

    /** Apart from the TEXT of the USE, which stays if there is a FAULT. */
    private final Text draft = new Text();

    private final int[] tape = new int[TAPE_LENGTH];
    private int count;
    private int at;
    private int fault;
    private String names = "";

    /** The FAULT, or -1 if the bytes are a TEXT, which draft is then. */
    int read(int[] bytes, int many, int use) {
      count = held(many, 0, Math.min(TAPE_LENGTH, bytes.length));
      System.arraycopy(bytes, 0, tape, 0, count);
      names = use == USE_WORTH ? "wlv" : "wsy";
      draft.length = 0;
      at = 0;
      fault = -1;
      readLevel(0, 0);
      if (at < count) {
        failHere();
      }
      return fault;
    }

    private void failHere() {
      if (fault < 0) {
        fault = at;
      }
    }

    private int next() {
      return at >= 0 && at < count ? tape[at] : THE_END;
    }

    private static boolean isDigit(int sign) {
      return sign >= '0' && sign <= '9';
    }

    /** T, A, B, S, P are the levels 0 to 4: each binds what the next one reads by its own signs. */
    private static int levelOf(int sign) {
      switch (sign) {
        case '|':
          return 0;
        case '&':
          return 1;
        case '<':
        case '=':
        case '>':
          return COMPARISON;
        case '+':
        case '-':
          return 3;
        case '*':
        case '/':
        case '%':
          return 4;
        default:
          return -1;
      }
    }

    private void readLevel(int level, int open) {
      if (level >= FACTOR) {
        readFactor(open);
        return;
      }
      readLevel(level + 1, open);
      int most = level == COMPARISON ? 1 : TAPE_LENGTH;
      for (int i = 0; i < most && fault < 0; i++) {
        int sign = next();
        if (levelOf(sign) != level) {
          return;
        }
        at++;
        readLevel(level + 1, open);
        draft.add(-sign);
      }
    }

    private void readFactor(int open) {
      int sign = next();
      if (isDigit(sign)) {
        readNumber();
      } else if (sign >= 0 && names.indexOf((char) sign) >= 0) {
        draft.add(-1 - names.indexOf((char) sign));
        at++;
      } else if (sign == '!' && open < MOST_OPEN) {
        at++;
        readFactor(open + 1);
        draft.add(-'!');
      } else if (sign == '(' && open < MOST_OPEN) {
        at++;
        readLevel(0, open + 1);
        readClosing();
      } else {
        failHere();
      }
    }

    private void readClosing() {
      if (fault < 0 && next() == ')') {
        at++;
      } else {
        failHere();
      }
    }

    private void readNumber() {
      int number = 0;
      for (int i = 0; i < MOST_DIGITS && isDigit(next()); i++) {
        number = number * 10 + next() - '0';
        at++;
      }
      draft.add(number);
    }
  }

  /** Works out the CAST that comes to most. */
  private static final class Caster {
    private static final int SETS = 1 << MOST_PARTS;
    private static final int MAY_NOT = -1;

    private final int[][] weight = new int[MOST_CHILDREN][MOST_PARTS];

    /** By one of the CHILDREN and a set of PARTS: what this one and those behind come to without them. */
    private final int[][] most = new int[MOST_CHILDREN + 1][SETS];

    private final int[] given = new int[MOST_CHILDREN];
    private int children;
    private int parts;

    void weighByWorth(Stage stage) {
      children = stage.childCount;
      parts = stage.partCount;
      for (int i = 0; i < children; i++) {
        for (int p = 0; p < parts; p++) {
          weight[i][p] = stage.mayPlay(i, p) ? stage.worthOf(i, p) : MAY_NOT;
        }
      }
    }

    void weighByWishes(Stage stage) {
      children = stage.childCount;
      parts = stage.partCount;
      for (int i = 0; i < children; i++) {
        for (int p = 0; p < parts; p++) {
          boolean counts = stage.mayPlay(i, p) && stage.children[i].dear(p) > 0;
          weight[i][p] = counts ? 1 : MAY_NOT;
        }
      }
    }

    void leaveOut(int child) {
      for (int p = 0; p < parts; p++) {
        weight[child][p] = MAY_NOT;
      }
    }

    void workOut() {
      int sets = 1 << parts;
      for (int set = 0; set < sets; set++) {
        most[children][set] = 0;
      }
      for (int i = children - 1; i >= 0; i--) {
        for (int set = 0; set < sets; set++) {
          most[i][set] = mostFrom(i, set);
        }
      }
    }

    private int mostFrom(int child, int taken) {
      int found = most[child + 1][taken];
      for (int p = 0; p < parts; p++) {
        if (isFree(child, p, taken)) {
          found = Math.max(found, comesTo(child, p, taken));
        }
      }
      return found;
    }

    private boolean isFree(int child, int part, int taken) {
      return (taken >> part & 1) == 0 && weight[child][part] != MAY_NOT;
    }

    private int comesTo(int child, int part, int taken) {
      return weight[child][part] + most[child + 1][taken | 1 << part];
    }

    int mostWithout(int taken) {
      return most[0][taken];
    }

    /** Gives each the least PART with which the most is still come to. */
    void assignWithout(int taken) {
      int gone = taken;
      for (int i = 0; i < children; i++) {
        given[i] = leastPart(i, gone);
        if (given[i] != NO_PART) {
          gone |= 1 << given[i];
        }
      }
    }

    private int leastPart(int child, int taken) {
      for (int p = 0; p < parts; p++) {
        if (isFree(child, p, taken) && comesTo(child, p, taken) == most[child][taken]) {
          return p;
        }
      }
      return NO_PART;
    }
  }

  /**
   * Tries the LIES of one. What the others come to, if that one has a certain PART, is the same by
   * each lie: so it is worked out once for each PART, and each lie only chooses among these.
   */
  private static final class Liar {
    private static final int CHOICES = MOST_PARTS + 1;
    private static final int NO_DIGIT = 7;
    private static final int DEAREST = 3;
    private static final int LESS_DEAR = 2;

    /** By the PART of the one (the number of PARTS stands for none): what the others come to. */
    private final int[] others = new int[CHOICES];

    /** The CAST by that PART as a number: the lesser comes first among those that come to the same. */
    private final int[] rank = new int[CHOICES];

    private final boolean[] may = new boolean[CHOICES];
    private final int[] truly = new int[CHOICES];
    private final int[][] ifDear = new int[DEAREST + 1][CHOICES];
    private final int[] claimed = new int[CHOICES];
    private int none;
    private int which;
    private int more;

    /** Takes a caster that has weighed by WORTH, and leaves the one out in it. */
    void tryAll(Stage stage, Caster caster, int child) {
      none = stage.partCount;
      which = -1;
      more = 0;
      learnOthers(stage, caster, child);
      learnWorth(stage, child);
      int asItIs = truly[chosenBy(truly)];
      for (int first = 0; first < none; first++) {
        for (int second = 0; second < none; second++) {
          claim(first, second);
          int gain = truly[chosenBy(claimed)] - asItIs;
          if (gain > more) {
            more = gain;
            which = 10 * first + second;
          }
        }
      }
    }

    private void learnOthers(Stage stage, Caster caster, int child) {
      caster.leaveOut(child);
      caster.workOut();
      for (int p = 0; p <= none; p++) {
        int taken = p < none ? 1 << p : 0;
        may[p] = p == none || stage.mayPlay(child, p);
        others[p] = caster.mostWithout(taken);
        caster.assignWithout(taken);
        caster.given[child] = p < none ? p : NO_PART;
        rank[p] = rankOf(caster.given, stage.childCount);
      }
    }

    private static int rankOf(int[] given, int count) {
      int number = 0;
      for (int i = 0; i < count; i++) {
        number = number * 8 + (given[i] == NO_PART ? NO_DIGIT : given[i]);
      }
      return number;
    }

    private void learnWorth(Stage stage, int child) {
      for (int p = 0; p < none; p++) {
        truly[p] = stage.worthOf(child, p);
        for (int dear = 0; dear <= DEAREST; dear++) {
          ifDear[dear][p] = stage.worthIfDear(child, p, dear);
        }
      }
      truly[none] = 0;
      claimed[none] = 0;
    }

    private void claim(int first, int second) {
      for (int p = 0; p < none; p++) {
        int dear = p == first ? DEAREST : p == second ? LESS_DEAR : 0;
        claimed[p] = ifDear[dear][p];
      }
    }

    /** The PART that one would have by the BEST, if PARTS were worth this to that one. */
    private int chosenBy(int[] worths) {
      int chosen = none;
      for (int p = 0; p < none; p++) {
        int ahead = worths[p] + others[p] - worths[chosen] - others[chosen];
        if (may[p] && (ahead > 0 || (ahead == 0 && rank[p] < rank[chosen]))) {
          chosen = p;
        }
      }
      return chosen;
    }
  }

  /** Speaks the VOICES of a PART and keeps THE TRACE. */
  private static final class Voices {
    private static final int LONGEST_TRACE = 30;

    private final int[] trace = new int[LONGEST_TRACE];
    private int traceCount;
    private boolean parted;
    private int number;
    private int kind;
    private int m;

    int speak(int part, Role role, int voice, int x) {
      number = part;
      kind = role.kind;
      m = role.m;
      traceCount = 0;
      parted = false;
      switch (voice) {
        case 0:
          return says(kind, x);
        case 1:
          return sings(kind, x);
        case 2:
          return waits(kind, x);
        default:
          return parts(kind, x);
      }
    }

    private void begin(int body) {
      if (traceCount < LONGEST_TRACE) {
        trace[traceCount] = body;
        traceCount++;
      }
    }

    private static int above(int kind) {
      return kind > PART && kind < KINDS ? ABOVE[kind] : PART;
    }

    // In each of the four, from is the KIND from which on a BODY is looked for; it only goes up.

    private int says(int from, int x) {
      switch (from) {
        case PART:
          begin(10);
          return x + number;
        case SPEAKER:
          begin(20);
          return says(above(from), x) - 4;
        case SINGER:
          begin(50);
          return says(above(from), x) * 3;
        case STAR:
          begin(70);
          return 9;
        default:
          return says(above(from), x);
      }
    }

    private int sings(int from, int x) {
      switch (from) {
        case PART:
          begin(11);
          return says(kind, x) * 2;
        case CROWN:
          begin(30);
          return 0 - sings(above(from), x);
        case CAMEL:
          begin(60);
          return sings(above(from), x + 1);
        case STAR:
          begin(71);
          return sings(above(from), x) + m;
        default:
          return sings(above(from), x);
      }
    }

    private int waits(int from, int x) {
      switch (from) {
        case PART:
          begin(12);
          return sings(kind, x) - m;
        case BEAST:
          begin(40);
          return waits(above(from), x / 2);
        case SINGER:
          begin(51);
          return waits(above(from), x) ^ number;
        default:
          return waits(above(from), x);
      }
    }

    private int parts(int from, int x) {
      switch (from) {
        case PART:
          begin(13);
          parted = m == number;
          return parted ? 0 : x / (m - number);
        case SPEAKER:
          begin(21);
          int left = parts(above(from), x);
          return parted ? 0 : left + sings(kind, 1);
        default:
          return parts(above(from), x);
      }
    }
  }

  /** A SHEET; of 0 bits: missing. */
  private static final class Sheet {
    private final int[] row = new int[SHEET_LENGTH];
    private int bits;
    private int count;

    void clearTo(int itsBits, int itsCount) {
      bits = itsBits;
      count = itsCount;
      for (int i = 0; i < SHEET_LENGTH; i++) {
        row[i] = 0;
      }
    }

    int lowestBits(int v) {
      if (bits == 8) {
        return (byte) v;
      }
      return bits == 16 ? (short) v : v;
    }

    /** If n numbers stand there from number i on (no sum that could wrap). */
    boolean hasRun(int i, int n) {
      return i >= 0 && n >= 0 && n <= count && i <= count - n;
    }

    /** If each number is the one in the row that has so many. */
    boolean startsLike(int[] other, int many) {
      if (count > many || count > other.length) {
        return false;
      }
      for (int i = 0; i < count; i++) {
        if (row[i] != other[i]) {
          return false;
        }
      }
      return true;
    }
  }
}
