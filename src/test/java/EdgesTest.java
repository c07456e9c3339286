import java.util.ArrayList;
import java.util.Arrays;
import java.util.List;

/**
 * What the document says of edges beside what is refused (that is in RefusalsTest): what is empty and what is full,
 * what is held within bounds, what is cut, where a number wraps around, and ties.
 */
public final class EdgesTest {
  private static final int LOW = -1000000000;
  private static final int BEYOND = LOW - 1;
  private static final int NONE = LOW - 2;
  private static final int STATE = LOW - 3;
  private static final int FULL = LOW - 4;
  private static final int PARTED = LOW - 6;
  private static final int MIN = Integer.MIN_VALUE;
  private static final int MAX = Integer.MAX_VALUE;

  private static int asked = 0;
  private static int wrong = 0;
  private static String topic = "";

  private static void due(String call, long got, long want) {
    asked++;
    if (got != want) {
      wrong++;
      System.out.println(topic + ": " + call + " answered " + got + ", due is " + want);
    }
  }

  public static void main(String[] args) {
    mayPlay();
    lines();
    dear();
    worthAndJoyHeld();
    theRestOfTheYear();
    joyOfAllHeld();
    theLastYears();
    refusedInTheLastYear();
    looseIsLotsAndPlay();
    draws();
    noDraw();
    lotsOfFewer();
    tape();
    textsThatEndEarly();
    textsOf60();
    openAtOnce();
    numbersAndNames();
    numbersWrap();
    lawWithoutText();
    untold();
    bestOfNoneAndOfSeven();
    bestByTies();
    wishedEdges();
    withoutEdges();
    liesThatAreAll();
    liesOfSeveral();
    liesForNone();
    liesBySecondWishAndLast();
    liesByTiesAhead();
    liesBehindRestore();
    odds();
    fitsByTheEnds();
    fitsByFewer();
    partsByNumbers();
    voicesThatWrap();
    howManyBodies();
    sheetsOfBits();
    movesInOne();
    castsUpTo();
    judgesUpTo();
    whatAnImageKeeps();
    whatAnImageLeaves();
    checks();
    built();
    System.out.println(asked + " answers asked, " + wrong + " wrong");
    if (wrong != 0) {
      System.exit(1);
    }
  }

  // ---- what the tests share

  private static void feed(PlayParts x, String signs) {
    for (int i = 0; i < signs.length(); i += 8) {
      int n = Math.min(8, signs.length() - i);
      long word = 0;
      for (int k = 0; k < n; k++) {
        word |= (long) signs.charAt(i + k) << (8 * k);
      }
      x.feed(word, n);
    }
  }

  private static int text(PlayParts x, int use, String signs) {
    feed(x, signs);
    return x.text(use);
  }

  /** What a text for JOY gives, with its names. */
  private static int law(String signs, int w, int s, int y) {
    PlayParts x = new PlayParts();
    due("text(1) " + signs, text(x, 1, signs), 1);
    return x.law(1, w, s, y);
  }

  private static void row(PlayParts x, int sheet, int bits, int... numbers) {
    x.sheet(sheet, bits, numbers.length);
    for (int i = 0; i < numbers.length; i++) {
      x.put(sheet, i, numbers[i]);
    }
  }

  private static PlayParts of(int parts, int children) {
    PlayParts x = new PlayParts();
    for (int i = 0; i < parts; i++) {
      x.part(5);
    }
    for (int i = 0; i < children; i++) {
      x.child(5, 5, 0);
    }
    return x;
  }

  private static void has(PlayParts x, int... parts) {
    for (int i = 0; i < parts.length; i++) {
      due("childIs(" + i + ", 5)", x.childIs(i, 5), parts[i]);
    }
  }

  // ---- parts, children

  private static void may(boolean want, int km, int voice, int size, int shy) {
    PlayParts x = new PlayParts();
    x.part(km);
    x.child(voice, size, shy);
    String who = km + " by VOICE " + voice + ", SIZE " + size + ", SHY " + shy;
    due("may play " + who, x.partIs(0, 4), want ? 1 : 0);
    due("cast of " + who, x.cast(0, 0), want ? -1 : STATE);
    due("lots of " + who, x.lots(), want ? 1 : 0);
    due("best of " + who, x.best(0), want ? 0 : -1);
    x.cast(0, -1);
    x.falls(0, 1);
    due("may play, but for being ill, " + who, x.partIs(0, 4), 0);
    due("cast of one who is ill, " + who, x.cast(0, 0), STATE);
    x.falls(0, 0);
    due("may play, ill no more, " + who, x.partIs(0, 4), want ? 1 : 0);
  }

  private static void mayPlay() {
    topic = "1, MAY PLAY";
    may(true, 0, 0, 9, 1);
    may(true, 9, 0, 1, 0);
    may(true, 10, 0, 9, 1);
    may(false, 11, 0, 9, 1);
    may(true, 11, 1, 9, 1);
    may(false, 19, 8, 1, 0);
    may(true, 19, 9, 1, 0);
    may(false, 20, 9, 1, 0);
    may(true, 21, 0, 1, 1);
    may(false, 21, 9, 2, 0);
    may(true, 28, 0, 8, 1);
    may(false, 28, 9, 9, 1);
    may(true, 29, 0, 9, 1);
    may(true, 30, 0, 9, 1);
    may(true, 39, 0, 1, 0);
    may(true, 40, 0, 9, 0);
    may(false, 40, 9, 9, 1);
    may(false, 45, 4, 5, 0);
    may(true, 45, 5, 5, 0);
    may(false, 45, 5, 5, 1);
    may(true, 49, 9, 1, 0);
    may(false, 49, 8, 1, 0);
    // Above half of m (cut), and m at most.
    may(false, 50, 9, 1, 0);
    may(true, 51, 0, 1, 1);
    may(false, 51, 0, 2, 1);
    may(false, 52, 0, 1, 1);
    may(true, 52, 0, 2, 1);
    may(false, 52, 0, 3, 1);
    may(false, 57, 0, 1, 0);
    may(false, 57, 0, 2, 0);
    may(false, 57, 0, 3, 0);
    may(true, 57, 0, 4, 0);
    may(true, 57, 0, 7, 0);
    may(false, 57, 0, 8, 0);
    may(false, 58, 0, 4, 0);
    may(true, 58, 0, 5, 0);
    may(false, 59, 9, 4, 1);
    may(true, 59, 0, 5, 1);
    may(true, 59, 0, 9, 0);
    may(true, 60, 0, 9, 1);
    may(false, 60, 9, 1, 0);
    may(false, 64, 9, 1, 0);
    may(true, 64, 0, 1, 1);
    may(true, 65, 0, 1, 0);
    may(true, 69, 0, 1, 1);
  }

  private static void lines() {
    topic = "1, LINES";
    int[][] least = {{0, 0}, {10, 1}, {20, 0}, {30, 0}, {40, 1}, {50, 1}, {60, 0}};
    int[][] one = {{1, 1}, {11, 3}, {21, 0}, {31, 0}, {41, 3}, {51, 1}, {61, 0}};
    int[][] most = {{9, 9}, {19, 19}, {29, 4}, {39, 0}, {49, 19}, {59, 5}, {69, 0}};
    for (int year = 0; year < 4; year++) {
      for (int[][] each : new int[][][] {least, one, most}) {
        for (int[] part : each) {
          PlayParts x = new PlayParts();
          for (int i = 0; i < year; i++) {
            x.play();
          }
          x.part(part[0]);
          int more = part[0] / 10 == 4 ? year % 3 : 0;
          due("LINES of " + part[0] + " in YEAR " + year, x.partIs(0, 2), part[1] + more);
        }
      }
    }
  }

  private static void dear() {
    topic = "1, DEAR";
    PlayParts x = of(3, 1);
    text(x, 0, "w");
    // Each of the 64 triples of WISHES: the first that is the PART counts.
    for (int triple = 0; triple < 64; triple++) {
      int[] wish = {triple % 4 - 1, triple / 4 % 4 - 1, triple / 16 - 1};
      for (int k = 0; k < 3; k++) {
        x.wishes(0, k, wish[k]);
      }
      int part = triple % 3;
      int want = wish[0] == part ? 3 : wish[1] == part ? 2 : wish[2] == part ? 1 : 0;
      due("worth(0, " + part + ") by " + Arrays.toString(wish), x.worth(0, part), want);
    }
  }

  private static void worthAndJoyHeld() {
    topic = "2, held";
    int[] sums = {MIN, -2, -1, 0, 1, 98, 99, 100, 101, MAX};
    int[] worths = {0, 0, 0, 0, 1, 98, 99, 99, 99, 99};
    for (int i = 0; i < sums.length; i++) {
      PlayParts x = new PlayParts();
      text(x, 0, "l");
      due("law(0, 0, " + sums[i] + ", 0)", x.law(0, 0, sums[i], 0), worths[i]);
    }
    int[] joys = {MIN, -101, -100, -99, -98, 0, 98, 99, 100, MAX};
    int[] helds = {-99, -99, -99, -99, -98, 0, 98, 99, 99, 99};
    for (int i = 0; i < joys.length; i++) {
      PlayParts x = new PlayParts();
      due("law(1, " + joys[i] + ", 0, 0) without a text", x.law(1, joys[i], 0, 0), helds[i]);
      text(x, 1, "s");
      due("law(1, 0, " + joys[i] + ", 0)", x.law(1, 0, joys[i], 0), helds[i]);
    }
    String[] texts = {"98", "99", "100", "9999", "0-98", "0-99", "0-100", "0-9999"};
    int[] ones = {98, 99, 99, 99, -98, -99, -99, -99};
    for (int i = 0; i < texts.length; i++) {
      PlayParts x = of(1, 1);
      text(x, 0, texts[i]);
      due("worth(0, 0) by " + texts[i], x.worth(0, 0), Math.max(0, ones[i]));
      text(x, 1, texts[i]);
      due("childIs(0, 9) by " + texts[i], x.childIs(0, 9), ones[i]);
      due("play() by " + texts[i], x.play(), ones[i]);
      due("count(3) by " + texts[i], x.count(3), ones[i]);
    }
    // WORTH is held ahead of JOY: 99 and 1, not 120 and 1, less 100.
    PlayParts x = of(1, 1);
    text(x, 0, "120");
    text(x, 1, "w+1-100");
    x.cast(0, 0);
    due("childIs(0, 9) by a WORTH that is held", x.childIs(0, 9), 0);
  }

  // ---- years

  private static void theRestOfTheYear() {
    topic = "2, the rest of YEAR by 7";
    PlayParts x = of(0, 1);
    text(x, 1, "y");
    int[] rests = {0, 1, 2, 3, 4, 5, 6, 0, 1};
    for (int year = 0; year < rests.length; year++) {
      due("childIs(0, 9) in " + year, x.childIs(0, 9), rests[year]);
      due("play() in " + year, x.play(), rests[year]);
    }
    due("count(3)", x.count(3), 22);
  }

  /** Seven CHILDREN, four of them SHY, who have come to so many times 693 by 99 (or -99) each. */
  private static PlayParts joyful(String text) {
    PlayParts x = new PlayParts();
    for (int i = 0; i < 7; i++) {
      x.child(5, 5, i < 4 ? 1 : 0);
    }
    text(x, 1, text);
    for (int i = 0; i < 7; i++) {
      x.loose(20);
    }
    x.loose(4);
    return x;
  }

  private static void joyOfAllHeld() {
    topic = "1, JOY held";
    PlayParts x = joyful("99");
    due("count(3)", x.count(3), 99792);
    text(x, 1, "29");
    due("play()", x.play(), 203);
    text(x, 1, "s");
    due("play() up to the most", x.play(), 4);
    due("count(3), the most", x.count(3), 99999);
    text(x, 1, "1");
    due("play() above it", x.play(), 7);
    due("count(3), held", x.count(3), 99999);
    due("loose(1), held", x.loose(1), 99999);
    text(x, 1, "0-s");
    due("play() down from there", x.play(), -4);
    due("count(3)", x.count(3), 99995);
    text(x, 1, "1");
    due("loose(1) above it by 3", x.loose(1), 99999);
    PlayParts y = joyful("0-99");
    due("count(3)", y.count(3), -99792);
    text(y, 1, "0-29");
    due("play()", y.play(), -203);
    text(y, 1, "0-s");
    due("play() down to the least", y.play(), -4);
    due("count(3), the least", y.count(3), -99999);
    text(y, 1, "0-1");
    due("play() below it", y.play(), -7);
    due("count(3), held", y.count(3), -99999);
    text(y, 1, "s");
    due("loose(1) up from there", y.loose(1), -99995);
    // All together: what goes up and down in one year is held only behind it.
    text(x, 1, "s*99-(!s)*99-1*s");
    due("play() by 98, 98, 98, 98, -99, -99, -99", x.play(), 95);
    due("count(3)", x.count(3), 99999);
  }

  private static void toYear(PlayParts x, int year) {
    for (int i = 0; i < year / 20; i++) {
      x.loose(20);
    }
    if (year % 20 > 0) {
      x.loose(year % 20);
    }
    due("count(2)", x.count(2), year);
  }

  private static void theLastYears() {
    topic = "16 and 18, the last years";
    PlayParts x = new PlayParts();
    toYear(x, 9979);
    due("loose(20) in 9979", x.loose(20), 0);
    due("count(2)", x.count(2), 9999);
    x = new PlayParts();
    toYear(x, 9980);
    due("loose(20) in 9980", x.loose(20), STATE);
    due("loose(19) in 9980", x.loose(19), 0);
    due("count(2)", x.count(2), 9999);
    x = new PlayParts();
    toYear(x, 9998);
    due("loose(2) in 9998", x.loose(2), STATE);
    due("play() in 9998", x.play(), 0);
    due("play() in 9999", x.play(), STATE);
    due("loose(1) in 9999", x.loose(1), STATE);
    due("count(2)", x.count(2), 9999);
    x = new PlayParts();
    toYear(x, 9998);
    due("loose(1) in 9998", x.loose(1), 0);
    due("count(2)", x.count(2), 9999);
    due("loose(1) in 9999", x.loose(1), STATE);
    due("loose(0) in 9999", x.loose(0), BEYOND);
    due("loose(21) in 9999", x.loose(21), BEYOND);
    due("told(3)", x.told(3), 1);
    due("told(1)", x.told(1), 2);
  }

  private static void refusedInTheLastYear() {
    topic = "16 and 18, refused in the last year";
    PlayParts x = of(1, 1);
    toYear(x, 9999);
    x.seed(7);
    x.cast(0, 0);
    due("loose(20)", x.loose(20), STATE);
    due("play()", x.play(), STATE);
    due("count(7) stays", x.count(7), 7);
    due("childIs(0, 5) stays", x.childIs(0, 5), 0);
    due("count(2) stays", x.count(2), 9999);
    x = of(0, 1);
    toYear(x, 9999);
    feed(x, "y+7");
    x.text(1);
    // 9999 is 7 * 1428, and 3; none of JOY comes by what is refused.
    due("childIs(0, 9)", x.childIs(0, 9), 10);
    due("play()", x.play(), STATE);
    due("count(3) stays", x.count(3), 0);
    due("lots() in 9999", x.lots(), 0);
  }

  private static void looseIsLotsAndPlay() {
    topic = "18, n times LOTS, then THEY PLAY";
    for (int n : new int[] {1, 2, 19, 20}) {
      PlayParts x = of(3, 2);
      PlayParts y = of(3, 2);
      for (PlayParts each : new PlayParts[] {x, y}) {
        each.wishes(0, 0, 1);
        each.wishes(1, 1, 2);
        each.cast(1, 0);
        text(each, 0, "w*9+l");
        text(each, 1, "w+y");
      }
      int joy = 0;
      for (int i = 0; i < n; i++) {
        y.lots();
        joy += y.play();
      }
      due("loose(" + n + ")", x.loose(n), joy);
      due("count(2)", x.count(2), n);
      due("count(3)", x.count(3), y.count(3));
      due("count(7)", x.count(7), y.count(7));
      for (int i = 0; i < 2; i++) {
        due("childIs(" + i + ", 4)", x.childIs(i, 4), y.childIs(i, 4));
        due("childIs(" + i + ", 5)", x.childIs(i, 5), -1);
      }
    }
  }

  /** The next z, by longs, so that nothing wraps but by the mask. */
  private static int next(int z) {
    return (int) ((z * 1103515245L + 12345L) & 0xFFFFFFFFL);
  }

  private static int drawn(int z) {
    return (int) ((z & 0xFFFFFFFFL) / 256);
  }

  /** What so many CHILDREN, who may all play all, have by LOTS from z on. */
  private static int[] lotsBy(int z, int parts, int children) {
    List<Integer> free = new ArrayList<>();
    for (int i = 0; i < parts; i++) {
      free.add(i);
    }
    int[] have = new int[children];
    int at = z;
    for (int i = 0; i < children; i++) {
      have[i] = -1;
      if (!free.isEmpty()) {
        at = next(at);
        have[i] = free.remove(drawn(at) % free.size());
      }
    }
    return have;
  }

  private static void draws() {
    topic = "1, DRAWS";
    for (int z : new int[] {0, 1, 2, -1, -2, MIN, MIN + 1, MAX, 77, 12345, -987654321, 0x01000000, 0x00FFFFFF}) {
      PlayParts x = of(7, 7);
      x.seed(z);
      due("lots() from " + z, x.lots(), 127);
      has(x, lotsBy(z, 7, 7));
      int at = z;
      for (int i = 0; i < 7; i++) {
        at = next(at);
      }
      due("count(7) behind 7 draws from " + z, x.count(7), at);
    }
    // By hand: 12345 by 256 is 48, its rest by 7 is 6.
    PlayParts x = of(7, 1);
    x.seed(0);
    x.lots();
    due("childIs(0, 5) from 0", x.childIs(0, 5), 6);
    due("count(7) from 0", x.count(7), 12345);
    // z -1 becomes -1103502900, which is 3191464396 without a sign; by 256 that is 12466657, its rest by 5 is 2.
    x = of(5, 1);
    x.seed(-1);
    x.lots();
    due("count(7) from -1", x.count(7), -1103502900);
    due("childIs(0, 5) from -1", x.childIs(0, 5), 2);
  }

  private static void noDraw() {
    topic = "1, LOTS without a draw";
    for (int[] many : new int[][] {{0, 0}, {0, 7}, {7, 0}}) {
      PlayParts x = of(many[0], many[1]);
      due("lots()", x.lots(), 0);
      due("count(7)", x.count(7), 1);
    }
    PlayParts x = of(1, 2);
    x.falls(0, 1);
    due("lots() with an ill one", x.lots(), 2);
    due("count(7), one draw, of one PART", x.count(7), next(1));
    has(x, -1, 0);
    x.falls(1, 1);
    due("lots() of the ill", x.lots(), 0);
    due("count(7), no draw", x.count(7), next(1));
    has(x, -1, -1);
    // Who had one has none, if there is none left.
    x = of(1, 2);
    x.cast(1, 0);
    due("lots()", x.lots(), 1);
    has(x, 0, -1);
    due("count(7), no draw for the second", x.count(7), next(1));
  }

  private static void lotsOfFewer() {
    topic = "1, LOTS of more PARTS and of fewer";
    int[][] many = {{1, 7}, {3, 7}, {6, 7}, {7, 6}, {7, 1}, {2, 1}};
    for (int[] each : many) {
      PlayParts x = of(each[0], each[1]);
      due("lots()", x.lots(), (1 << Math.min(each[0], each[1])) - 1);
      has(x, lotsBy(1, each[0], each[1]));
    }
    // A PART that one may not play is none to draw from: the second of 1, 3 by the rest.
    PlayParts x = new PlayParts();
    x.part(19);
    x.part(0);
    x.part(29);
    x.part(0);
    x.become(2, 24);
    x.child(5, 5, 0);
    for (int z = 0; z < 8; z++) {
      x.seed(z);
      x.lots();
      due("childIs(0, 5) from " + z, x.childIs(0, 5), drawn(next(z)) % 2 == 0 ? 1 : 3);
    }
  }

  // ---- texts

  private static void tape() {
    topic = "12";
    // The lowest byte first, whatever stands above; each n from 1 to 8.
    String signs = "1+2+4*9+";
    for (int n = 1; n <= 8; n++) {
      PlayParts x = new PlayParts();
      long word = 0x2B392A342B322B31L;
      due("feed(" + n + ")", x.feed(word, n), n);
      due("text(1) of " + signs.substring(0, n), x.text(1), n % 2 == 1 ? 1 : -10 - n);
      due("count(4)", x.count(4), 0);
      int[] sums = {1, 3, 7, 39};
      if (n % 2 == 1) {
        due("law(1, 0, 0, 0)", x.law(1, 0, 0, 0), sums[n / 2]);
      }
    }
    // Bytes of 128 and more, and of 0, are no signs.
    for (int sign : new int[] {0, 9, 10, 32, 127, 128, 176, 177, 247, 255}) {
      PlayParts x = new PlayParts();
      x.feed('1', 1);
      due("feed of " + sign, x.feed(sign, 1), 2);
      due("text(1), a byte " + sign, x.text(1), -11);
      x.feed(sign, 1);
      due("text(1), a byte " + sign + " first", x.text(1), -10);
    }
    PlayParts x = new PlayParts();
    for (int i = 0; i < 60; i++) {
      due("feed " + i, x.feed(i % 2 == 0 ? '1' : '+', 1), i + 1);
    }
    due("feed to 61", x.feed('1', 1), FULL);
    due("text(0) of 60 bytes that end too early", x.text(0), -70);
    due("feed behind", x.feed('7', 1), 1);
    due("text(0)", x.text(0), 1);
    due("law(0, 0, 0, 0)", x.law(0, 0, 0, 0), 7);
  }

  private static void fault(int use, String signs, int place) {
    PlayParts x = new PlayParts();
    text(x, use, "41");
    due("text(" + use + ") " + signs, text(x, use, signs), -10 - place);
    due("the one ahead stays behind " + signs, x.law(use, 1, 1, 1), 41);
    due("THE TAPE is empty behind " + signs, x.count(4), 0);
    int errors = 0;
    for (int k = 1; k <= 6; k++) {
      errors += x.told(k);
    }
    due("ERRORS behind " + signs, errors, 0);
    PlayParts y = new PlayParts();
    text(y, use, signs);
    due("untell(" + use + ") behind " + signs + " alone", y.untell(use), 0);
  }

  private static void textsThatEndEarly() {
    topic = "2, FAULT, too early";
    String[] texts = {"", "!", "(", "1+", "1*", "w<", "w=", "w>", "w|", "w&", "w-", "w/", "w%", "(1", "(1+", "!(", "((1)", "1+("};
    for (int use = 0; use < 2; use++) {
      for (String signs : texts) {
        fault(use, signs, signs.length());
      }
      // The first byte with which none goes on, though more is wrong behind it.
      fault(use, ")", 0);
      fault(use, "|", 0);
      fault(use, "1)", 1);
      fault(use, "1!", 1);
      fault(use, "1(", 1);
      fault(use, "(1)1", 3);
      fault(use, "(1)w", 3);
      fault(use, "()", 1);
      fault(use, "1+)((", 2);
      fault(use, "1<1<1", 3);
      fault(use, "1<1=1", 3);
      fault(use, "(1>1>1)", 4);
      fault(use, "1=1+1=1", 5);
      fault(use, "1<=1", 2);
      fault(use, "1 ", 1);
      fault(use, "1--1", 2);
    }
    for (String signs : new String[] {"1<1&1<1", "1<1|1<1", "(1<1)<1", "1<(1<1)", "!(1<1)<1", "1<1&1<1&1=1|1>1"}) {
      PlayParts x = new PlayParts();
      due("text(0) " + signs, text(x, 0, signs), 1);
    }
  }

  private static String ones(int length) {
    StringBuilder signs = new StringBuilder();
    while (signs.length() < length) {
      signs.append(signs.length() % 2 == 0 ? '1' : '+');
    }
    return signs.toString();
  }

  private static void textsOf60() {
    topic = "2, 60 bytes";
    due("59 bytes", law(ones(59), 0, 0, 0), 30);
    due("60 bytes", law(ones(59) + "2", 0, 0, 0), 29 + 12);
    due("60 bytes", law("!" + ones(59), 0, 0, 0), 29);
    due("one byte", law("8", 0, 0, 0), 8);
    fault(1, ones(60), 60);
    fault(1, ones(58) + "((", 60);
    fault(1, ones(58) + "1)", 59);
    fault(1, ones(58) + "))", 58);
    fault(1, "(" + ones(59), 60);
    // What is worked out stands at once: 30 numbers wait for the last sign, none is lost.
    StringBuilder deep = new StringBuilder();
    for (int i = 0; i < 5; i++) {
      deep.append("1|1&1<1+1*(");
    }
    deep.append(")");
    fault(1, deep.toString(), 55);
    StringBuilder open = new StringBuilder();
    for (int i = 0; i < 5; i++) {
      open.append("0|1&0<1*(");
    }
    due("5 times five signs that wait", law(open + "w)))))", 7, 0, 0), 1);
    due("5 times five signs that wait", law(open + "w)))))", 0, 0, 0), 0);
  }

  private static void openAtOnce() {
    topic = "2, 5 open at once";
    due("5 of (", law("(((((w)))))", 4, 0, 0), 4);
    due("5 of !", law("!!!!!w", 4, 0, 0), 0);
    due("5 of both", law("!(!(!w))", 4, 0, 0), 0);
    due("5 of both", law("(!(!(w)))", 4, 0, 0), 1);
    fault(1, "((((((w))))))", 5);
    fault(1, "!!!!!!w", 5);
    fault(1, "!(!(!(w)))", 5);
    fault(1, "(((((!w)))))", 5);
    fault(1, "!!!!!(w)", 5);
    fault(1, "1+!!!!!!w", 7);
    // What is closed is open no more: ! by what it stands before, ( by ).
    due("5 again", law("(((((w)))))+(((((s)))))", 4, 3, 0), 7);
    due("5 of ! again", law("!!!!!w+!!!!!s", 4, 0, 0), 1);
    due("4 and 1, twice", law("((((!w+!s))))", 4, 0, 0), 1);
    due("5, one closed, one more", law("((((((w)".substring(1) + "+(s)))))", 4, 3, 0), 7);
    due("! ahead of (..), closed by )", law("!(w)+!!!!!s", 4, 0, 0), 1);
    due("4 open, ! and a name, then !", law("((((!w&!s))))", 0, 0, 0), 1);
    fault(1, "((((!!w", 5);
    fault(1, "((((!(w", 5);
    fault(1, "(((((w)+((", 9);
  }

  private static void numbersAndNames() {
    topic = "2, NUMBERS and NAMES";
    due("1 digit", law("9", 0, 0, 0), 9);
    due("4 digits", law("9999/102", 0, 0, 0), 98);
    due("4 digits of 0", law("0000", 0, 0, 0), 0);
    due("4 digits", law("0098", 0, 0, 0), 98);
    due("4 digits and 4 digits", law("1234-1235+9", 0, 0, 0), 8);
    fault(1, "10000", 4);
    fault(1, "00000", 4);
    fault(1, "1+12345", 6);
    fault(1, "1w", 1);
    fault(1, "w1", 1);
    fault(1, "ww", 1);
    for (char name = 'a'; name <= 'z'; name++) {
      boolean worths = name == 'w' || name == 'l' || name == 'v';
      boolean joys = name == 'w' || name == 's' || name == 'y';
      PlayParts x = new PlayParts();
      due("text(0) " + name, text(x, 0, "" + name), worths ? 1 : -10);
      due("text(1) " + name, text(x, 1, "" + name), joys ? 1 : -10);
      due("text(0) in capitals", text(x, 0, "" + Character.toUpperCase(name)), -10);
    }
    PlayParts x = new PlayParts();
    text(x, 0, "w+l*10+v*30");
    due("law(0, 1, 2, 2)", x.law(0, 1, 2, 2), 81);
    text(x, 1, "w+s*10-y*30");
    due("law(1, 1, 2, 2)", x.law(1, 1, 2, 2), -39);
  }

  private static void numbersWrap() {
    topic = "2, ints that wrap";
    due("MAX + 1", law("w+s=y", MAX, 1, MIN), 1);
    due("MIN - 1", law("w-s=y", MIN, 1, MAX), 1);
    due("0 - MIN", law("0-w=w", MIN, 0, 0), 1);
    due("MIN * -1", law("w*s=y", MIN, -1, MIN), 1);
    due("65536 * 65536", law("w*s=y", 65536, 65536, 0), 1);
    due("46341 * 46341", law("w*s=y", 46341, 46341, -2147479015), 1);
    due("MAX * MAX", law("w*s=y", MAX, MAX, 1), 1);
    due("MIN / -1", law("w/s=y", MIN, -1, MIN), 1);
    due("MIN % -1", law("w%s", MIN, -1, 0), 0);
    due("-7 / 2", law("w/s", -7, 2, 0), -3);
    due("7 / -2", law("w/s", 7, -2, 0), -3);
    due("-7 / -2", law("w/s", -7, -2, 0), 3);
    due("-7 % 2", law("w%s", -7, 2, 0), -1);
    due("7 % -2", law("w%s", 7, -2, 0), 1);
    due("-6 % 3", law("w%s", -6, 3, 0), 0);
    for (int v : new int[] {MIN, -1, 0, 1, MAX}) {
      due(v + " / 0", law("w/0", v, 0, 0), 0);
      due(v + " % 0", law("w%s", v, 0, 0), 0);
      due("!" + v, law("!w", v, 0, 0), v == 0 ? 1 : 0);
      due("!!" + v, law("!!w", v, 0, 0), v == 0 ? 0 : 1);
      due(v + "|0", law("w|0", v, 0, 0), v == 0 ? 0 : 1);
      due("0|" + v, law("0|w", v, 0, 0), v == 0 ? 0 : 1);
      due(v + "&2", law("w&2", v, 0, 0), v == 0 ? 0 : 1);
      due("2&" + v, law("2&w", v, 0, 0), v == 0 ? 0 : 1);
    }
    due("MIN < MAX", law("w<s", MIN, MAX, 0), 1);
    due("MAX < MIN", law("w<s", MAX, MIN, 0), 0);
    due("MIN > MAX", law("w>s", MIN, MAX, 0), 0);
    due("MAX > MIN", law("w>s", MAX, MIN, 0), 1);
    due("MIN = MIN", law("w=s", MIN, MIN, 0), 1);
    due("2 < 2", law("w<s", 2, 2, 0), 0);
    due("2 > 2", law("w>s", 2, 2, 0), 0);
    due("2 = 3", law("w=s", 2, 3, 0), 0);
    due("wraps, then comes back", law("w+s-s", 5, MAX, 0), 5);
  }

  private static void lawWithoutText() {
    topic = "2, without a TEXT";
    PlayParts x = new PlayParts();
    int[] w = {0, 1, 9, 10, -1, 214748364, 214748365, 429496729, 430000000, -214748364, -214748365, 429496730, MIN, MAX};
    // 214748365 times 10 wraps below 0; 429496730 times 10 to 4; -214748365 times 10 to 2147483646; MAX times 10 to -10.
    int[] worths = {0, 10, 90, 99, 0, 99, 0, 0, 99, 0, 99, 4, 0, 0};
    for (int i = 0; i < w.length; i++) {
      due("law(0, " + w[i] + ", 9, 9)", x.law(0, w[i], 9, 9), worths[i]);
    }
    due("law(1, 5, 9, 9)", x.law(1, 5, 9, 9), 5);
  }

  private static void untold() {
    topic = "13 and 14";
    PlayParts x = new PlayParts();
    due("untell(0) of none", x.untell(0), 0);
    due("untell(1) of none", x.untell(1), 0);
    due("text(0) of an empty tape", x.text(0), -10);
    due("untell(0)", x.untell(0), 0);
    due("text(0) 0", text(x, 0, "0"), 1);
    due("law(0, 5, 0, 0), a text of 0", x.law(0, 5, 0, 0), 0);
    due("untell(1) of the other one", x.untell(1), 0);
    due("text(0) l in place of it", text(x, 0, "l"), 1);
    due("law(0, 5, 6, 0)", x.law(0, 5, 6, 0), 6);
    feed(x, "1+");
    due("untell(0)", x.untell(0), 1);
    due("count(4) stays", x.count(4), 2);
    due("untell(0) again", x.untell(0), 0);
    due("law(0, 5, 6, 0)", x.law(0, 5, 6, 0), 50);
    due("a tape for the other use", x.text(1), -12);
    feed(x, "2");
    due("text(1)", x.text(1), 1);
    due("count(4)", x.count(4), 0);
    due("text(1) of an empty tape again", x.text(1), -10);
    due("law(1, 5, 6, 0)", x.law(1, 5, 6, 0), 2);
  }

  // ---- the best cast

  private static void best(PlayParts x, int sum, int... parts) {
    due("best(-1)", x.best(-1), sum);
    for (int i = 0; i < parts.length; i++) {
      due("best(" + i + ")", x.best(i), parts[i]);
    }
    if (parts.length < 7) {
      due("best(" + parts.length + ")", x.best(parts.length), NONE);
    }
  }

  private static void bestOfNoneAndOfSeven() {
    topic = "20, none and seven";
    best(of(0, 0), 0);
    best(of(7, 0), 0);
    best(of(0, 7), 0, -1, -1, -1, -1, -1, -1, -1);
    best(of(7, 7), 0, 0, 1, 2, 3, 4, 5, 6);
    best(of(1, 7), 0, 0, -1, -1, -1, -1, -1, -1);
    best(of(7, 1), 0, 0);
    PlayParts x = of(7, 7);
    for (int i = 0; i < 7; i++) {
      x.wishes(i, 0, (i + 3) % 7);
    }
    best(x, 210, 3, 4, 5, 6, 0, 1, 2);
    due("wished()", x.wished(), 7);
    due("without(6)", x.without(6), 30);
    x.falls(6, 1);
    best(x, 180, 3, 4, 5, 6, 0, 1, -1);
    due("without(6), who is ill", x.without(6), 0);
    text(x, 0, "99");
    x.falls(6, 0);
    best(x, 693, 0, 1, 2, 3, 4, 5, 6);
    // All PARTS that the last one may play are had by those ahead, if they take the least.
    for (int i = 0; i < 6; i++) {
      x.become(i, 16);
      x.become(i, i == 0 ? 5 : 14);
    }
    x.become(6, 19);
    best(x, 594, 0, 1, 2, 3, 4, 5, -1);
  }

  private static void bestByTies() {
    topic = "20, ties";
    // The second one may play number 0 alone: nothing is lost if the first one has it.
    PlayParts x = new PlayParts();
    x.part(5);
    x.part(15);
    x.child(5, 5, 0);
    x.child(4, 5, 0);
    best(x, 0, 0, -1);
    text(x, 0, "1");
    best(x, 2, 1, 0);
    text(x, 0, "w=3");
    x.wishes(0, 0, 1);
    best(x, 1, 1, 0);
    x.wishes(1, 0, 0);
    best(x, 2, 1, 0);
    x.wishes(0, 0, 0);
    x.wishes(0, 1, 1);
    // One of both has number 0: the first one, by whom the least is asked first.
    best(x, 1, 0, -1);
    // What they have now does not matter; nor is it changed.
    x.cast(0, 1);
    x.cast(1, 0);
    best(x, 1, 0, -1);
    has(x, 1, 0);
    // With none it is come to, too: still the least PART.
    x = of(2, 2);
    text(x, 0, "w");
    x.wishes(1, 0, 0);
    best(x, 3, 1, 0);
    x.wishes(1, 0, 1);
    best(x, 3, 0, 1);
    x = of(3, 3);
    x.wishes(0, 0, 2);
    x.wishes(1, 0, 2);
    x.wishes(2, 0, 2);
    best(x, 30, 0, 1, 2);
    x.wishes(2, 0, 0);
    best(x, 60, 1, 2, 0);
    // LAST counts, if a TEXT asks for it.
    text(x, 0, "w+l*9");
    best(x, 6, 1, 2, 0);
    x.cast(0, 0);
    x.play();
    best(x, 12, 0, 2, 1);
  }

  private static void wishedEdges() {
    topic = "21";
    due("wished() of nobody", of(7, 0).wished(), 0);
    due("wished() of no PART", of(0, 7).wished(), 0);
    PlayParts x = of(7, 7);
    due("wished() of no WISHES", x.wished(), 0);
    for (int i = 0; i < 7; i++) {
      x.wishes(i, 2, 0);
    }
    due("wished(), all the same one", x.wished(), 1);
    // Each wishes one's own and the next one; then a chain, in which the first gives way.
    for (int i = 0; i < 7; i++) {
      x.wishes(i, 0, Math.min(6, i + 1));
      x.wishes(i, 2, -1);
    }
    due("wished(), a chain that ends in the same one", x.wished(), 6);
    x.wishes(6, 1, 0);
    due("wished(), the last one takes the first PART", x.wished(), 7);
    x.become(0, 19);
    due("wished(), but may not play it", x.wished(), 6);
    x.falls(6, 1);
    due("wished(), and is ill", x.wished(), 6);
    x.falls(5, 1);
    due("wished(), and another one, too", x.wished(), 5);
    text(x, 0, "0");
    due("wished(), by a TEXT of 0", x.wished(), 5);
    // BEST may have fewer WISHES in it than WISHED: 30 and 0 is more than 10 and 10.
    x = of(2, 2);
    text(x, 0, "(w=3)*30+(w=1)*10");
    x.wishes(0, 0, 0);
    x.wishes(0, 2, 1);
    x.wishes(1, 2, 0);
    due("best(-1)", x.best(-1), 30);
    due("wished()", x.wished(), 2);
    due("best(-1), still by WORTH", x.best(-1), 30);
  }

  private static void withoutEdges() {
    topic = "22";
    PlayParts x = of(1, 2);
    due("without(0), worth nothing", x.without(0), 0);
    x.wishes(0, 0, 0);
    due("without(0)", x.without(0), 30);
    due("without(1), who has none", x.without(1), 0);
    x.wishes(1, 0, 0);
    due("without(0), whom the other one replaces", x.without(0), 0);
    due("without(1), whom the other one replaces", x.without(1), 0);
    x.wishes(1, 0, -1);
    x.wishes(1, 1, 0);
    due("without(0), whom the other one replaces by less", x.without(0), 10);
    due("without(0) of none other", of(7, 1).without(0), 0);
    x = of(7, 7);
    text(x, 0, "99");
    for (int i = 0; i < 7; i++) {
      due("without(" + i + ") of seven", x.without(i), 99);
    }
    due("best(-1) behind it", x.best(-1), 693);
    due("best(6) behind it", x.best(6), 6);
    x.falls(3, 1);
    due("without(3), who is ill", x.without(3), 0);
  }

  private static void lies(PlayParts x, int child, int which, int more) {
    due("lies(" + child + ", 0)", x.lies(child, 0), which);
    due("lies(" + child + ", 1)", x.lies(child, 1), more);
  }

  private static void liesThatAreAll() {
    topic = "23, any PARTS";
    lies(of(0, 1), 0, -1, 0);
    lies(of(1, 1), 0, -1, 0);
    lies(of(7, 7), 6, -1, 0);
    // 20 and 30 come to more than 30 and 10: the first one has the second WISH. Only by 6 twice, 30 and 10 is more.
    PlayParts x = of(7, 2);
    x.wishes(0, 0, 6);
    x.wishes(0, 1, 0);
    x.wishes(1, 0, 6);
    x.wishes(1, 2, 1);
    best(x, 50, 0, 6);
    lies(x, 0, 66, 10);
    // The third WISH is none in a lie: else number 2 would be as good for all as 6.
    x.wishes(0, 2, 2);
    best(x, 50, 0, 6);
    lies(x, 0, 66, 10);
    // As they are, but for the third WISH: that is a lie, too.
    x = of(3, 2);
    text(x, 0, "(w=3)*10+(w=1)*30+(w=2)*5");
    x.wishes(0, 0, 1);
    x.wishes(0, 1, 2);
    x.wishes(0, 2, 0);
    best(x, 30, 0, 1);
    lies(x, 0, -1, 0);
    // Truly the third WISH is worth 30; a lie makes it 10 at most, and the second one has it.
    x.wishes(1, 1, 1);
    best(x, 35, 0, 1);
    lies(x, 0, -1, 0);
    // WORTH is that by the true WISHES, the third one too.
    x = of(2, 2);
    x.wishes(0, 2, 0);
    x.wishes(1, 1, 0);
    best(x, 20, 1, 0);
    lies(x, 0, 0, 10);
    x.falls(0, 1);
    lies(x, 0, -1, 0);
  }

  private static void liesOfSeveral() {
    topic = "23, several";
    // Number 1 is to be had by 1 first (and any second) or 1 second: 1 first and 0 second is not the least.
    PlayParts x = of(3, 2);
    text(x, 0, "(w>1)*9+(w=1)*4");
    x.wishes(0, 2, 1);
    x.wishes(1, 1, 1);
    x.wishes(1, 2, 2);
    best(x, 9, 0, 1);
    // By a claim of 9 for it, 9 and 4 are most; by one more PART of 9 both have theirs.
    lies(x, 0, 11, 4);
    x.wishes(1, 1, -1);
    x.wishes(1, 0, -1);
    best(x, 8, 1, 2);
    lies(x, 0, -1, 0);
    // As much as by the BEST as it is: no lie. One more: a lie.
    x = of(2, 2);
    text(x, 0, "w+10*l");
    x.wishes(0, 0, 0);
    x.wishes(1, 0, 0);
    x.wishes(1, 1, 1);
    best(x, 5, 0, 1);
    lies(x, 0, -1, 0);
    lies(x, 1, -1, 0);
    x.wishes(0, 1, 1);
    lies(x, 1, 0, 1);
    due("childIs(1, 6) stays", x.childIs(1, 6), 0);
    due("childIs(1, 7) stays", x.childIs(1, 7), 1);
    // LAST counts in what one would have: 10 more by it, so that no lie is worth more.
    x.cast(1, 1);
    x.play();
    best(x, 15, 0, 1);
    lies(x, 1, -1, 0);
  }

  private static void liesForNone() {
    topic = "23, who has none";
    // One PART: 10 for the first one, 30 for the second one, who has it; by a lie of 30 it is the first one's.
    PlayParts x = of(1, 2);
    x.wishes(0, 2, 0);
    x.wishes(1, 0, 0);
    best(x, 30, -1, 0);
    lies(x, 0, 0, 10);
    lies(x, 1, -1, 0);
    // The other way round, 30 and 30 is no more: the first one keeps it.
    x = of(1, 2);
    x.wishes(0, 0, 0);
    x.wishes(1, 2, 0);
    best(x, 30, 0, -1);
    lies(x, 1, -1, 0);
    // Who has what is worth nothing truly has that by the BEST, too.
    x = of(1, 1);
    best(x, 0, 0);
    lies(x, 0, -1, 0);
    // Number 6 is less than none: the first one, who may play that alone, has it, though none is worth as much.
    x = new PlayParts();
    x.part(11);
    x.part(11);
    for (int i = 2; i < 6; i++) {
      x.part(19);
    }
    x.part(0);
    x.child(0, 5, 0);
    x.child(5, 5, 0);
    x.child(5, 5, 0);
    x.wishes(1, 2, 0);
    x.wishes(2, 0, 0);
    x.wishes(2, 1, 6);
    best(x, 30, 6, 1, 0);
    lies(x, 2, -1, 0);
  }

  private static void liesBySecondWishAndLast() {
    topic = "23, the second WISH and LAST";
    // Only as a second WISH number 0 is worth 9, as much as to the other one.
    PlayParts x = of(2, 2);
    text(x, 0, "(w=2)*9+(w=1)*4");
    x.wishes(0, 2, 0);
    x.wishes(1, 1, 0);
    best(x, 9, 1, 0);
    lies(x, 0, 10, 4);
    // Both had number 1 LAST: 10 by a lie is as much as the other one's 10, no more.
    x = bothHad(1);
    text(x, 0, "l*4+w*2");
    x.wishes(0, 2, 1);
    x.wishes(1, 0, 1);
    best(x, 10, 0, 1);
    lies(x, 0, -1, 0);
    // Both had number 0 LAST, which is worth less by that: number 1 counts as what one had not.
    x = bothHad(0);
    text(x, 0, "(!l)*9+w");
    x.wishes(0, 2, 1);
    x.wishes(1, 1, 1);
    best(x, 11, 0, 1);
    lies(x, 0, 11, 10);
  }

  private static PlayParts bothHad(int part) {
    PlayParts x = of(2, 2);
    for (int i = 0; i < 2; i++) {
      x.cast(i, part);
      x.play();
    }
    due("childIs(0, 4)", x.childIs(0, 4), part);
    due("childIs(1, 4)", x.childIs(1, 4), part);
    return x;
  }

  private static void liesByTiesAhead() {
    topic = "23, a tie told by those ahead";
    PlayParts x = new PlayParts();
    x.part(0);
    x.part(15);
    x.part(15);
    x.part(15);
    x.child(9, 5, 0);
    x.child(0, 5, 0);
    x.child(9, 5, 0);
    x.child(9, 5, 0);
    x.wishes(0, 0, 0);
    x.wishes(0, 1, 1);
    x.wishes(1, 0, 0);
    x.wishes(2, 1, 3);
    x.wishes(3, 0, 3);
    x.wishes(3, 1, 1);
    best(x, 80, 1, 0, 2, 3);
    // With 3 as the first WISH 0, none, 3, 1 and 1, 0, 2, 3 come to 80: number 0 has the least in the first one, though
    // the one behind has none there and 0 in the other.
    lies(x, 2, 30, 20);
    x.wishes(2, 0, 3);
    best(x, 80, 0, -1, 3, 1);
    lies(x, 2, -1, 0);
  }

  private static void liesBehindRestore() {
    topic = "23, of fewer PARTS again";
    PlayParts x = of(1, 2);
    x.wishes(0, 2, 0);
    x.wishes(1, 0, 0);
    x.image();
    x.part(5);
    x.wishes(0, 0, 1);
    lies(x, 0, -1, 0);
    x.restore();
    best(x, 30, -1, 0);
    lies(x, 0, 0, 10);
    due("without(1)", x.without(1), 20);
  }

  private static void odds(PlayParts x, int above, int below) {
    due("odds(0, 0)", x.odds(0, 0), above);
    due("odds(0, 1)", x.odds(0, 1), below);
  }

  private static void odds() {
    topic = "24";
    odds(of(0, 1), STATE, STATE);
    for (int parts = 1; parts <= 7; parts++) {
      PlayParts x = of(parts, 1);
      odds(x, 0, 1);
      x.wishes(0, 2, parts - 1);
      odds(x, 1, parts);
      x.wishes(0, 0, 0);
      int good = Math.min(2, parts);
      odds(x, good == 2 && parts % 2 == 1 ? 2 : 1, good == 1 ? 1 : parts % 2 == 0 ? parts / 2 : parts);
      x.wishes(0, 1, parts / 2);
      if (parts > 2) {
        odds(x, parts % 3 == 0 ? 1 : 3, parts % 3 == 0 ? parts / 3 : parts);
      }
    }
    // A WISH that one may not play is none of those.
    PlayParts x = of(2, 1);
    x.part(19);
    x.wishes(0, 0, 2);
    odds(x, 0, 1);
    x.wishes(0, 1, 1);
    odds(x, 1, 2);
    x.become(0, 19);
    odds(x, 1, 1);
    x.become(1, 19);
    odds(x, STATE, STATE);
  }

  private static void fitsByTheEnds() {
    topic = "25, z from 0 to 255";
    int[] seeds = {0, 1, 127, 254, 255, 256, 257, -1, MAX, 512};
    for (int z : seeds) {
      int[] want = lotsBy(z, 7, 7);
      int many = 0;
      int least = NONE;
      for (int other = 255; other >= 0; other--) {
        if (Arrays.equals(lotsBy(other, 7, 7), want)) {
          many++;
          least = other;
        }
      }
      PlayParts x = of(7, 7);
      x.seed(999);
      x.cast(0, 3);
      row(x, 1, 8, want);
      due("fits(1, 0) of what comes by " + z, x.fits(1, 0), many);
      due("fits(1, 1) of what comes by " + z, x.fits(1, 1), least);
      due("count(7) stays", x.count(7), 999);
      due("childIs(0, 5) stays", x.childIs(0, 5), 3);
    }
  }

  private static void fitsByFewer() {
    topic = "25, fewer numbers, and none";
    PlayParts x = of(2, 3);
    row(x, 0, 32);
    due("fits(0, 0) of no numbers", x.fits(0, 0), 256);
    due("fits(0, 1) of no numbers", x.fits(0, 1), 0);
    due("fits(0, 0) of no numbers, of nobody", ofNobody().fits(0, 0), 256);
    int[] firsts = new int[2];
    int[] leasts = {-1, -1};
    for (int z = 255; z >= 0; z--) {
      int first = drawn(next(z)) % 2;
      firsts[first]++;
      leasts[first] = z;
    }
    for (int first = 0; first < 2; first++) {
      row(x, 0, 8, first);
      due("fits(0, 0) of " + first, x.fits(0, 0), firsts[first]);
      row(x, 0, 16, first, 1 - first, -1);
      due("fits(0, 0) of " + first + ", the other one, none", x.fits(0, 0), firsts[first]);
      due("fits(0, 1) of " + first + ", the other one, none", x.fits(0, 1), leasts[first]);
    }
    row(x, 0, 16, 0, 1, 0);
    due("fits(0, 0), none is left", x.fits(0, 0), 0);
    row(x, 0, 16, 2);
    due("fits(0, 0) of no such PART", x.fits(0, 0), 0);
    due("fits(0, 1) of no such PART", x.fits(0, 1), NONE);
    row(x, 0, 32, -2);
    due("fits(0, 0) of -2", x.fits(0, 0), 0);
    row(x, 0, 32, 256);
    due("fits(0, 0) of 256", x.fits(0, 0), 0);
    x.falls(0, 1);
    row(x, 0, 32, -1);
    due("fits(0, 0) of one who is ill", x.fits(0, 0), 256);
    due("fits(0, 1) of one who is ill", x.fits(0, 1), 0);
  }

  private static PlayParts ofNobody() {
    PlayParts x = new PlayParts();
    x.sheet(0, 8, 0);
    return x;
  }

  // ---- voices

  private static void partsByNumbers() {
    topic = "4, PARTED";
    // Each number 0 .. 6 with each m: x by (m - k).
    for (int m = 0; m < 10; m++) {
      PlayParts x = new PlayParts();
      for (int k = 0; k < 7; k++) {
        x.part(m);
      }
      for (int k = 0; k < 7; k++) {
        due("voice(" + k + ", 3, -100) by m " + m, x.voice(k, 3, -100), m == k ? PARTED : -100 / (m - k));
        due("voice(" + k + ", 3, 5) by m " + m, x.voice(k, 3, 5), m == k ? PARTED : 5 / (m - k));
      }
      due("told(6)", x.told(6), m < 7 ? 2 : 0);
    }
    // Of a SPEAKER and of a SINGER, PARTED is all that is answered.
    PlayParts x = new PlayParts();
    x.part(10);
    x.part(41);
    due("voice(0, 3, 5) of a SPEAKER", x.voice(0, 3, 5), PARTED);
    due("voice(1, 3, 5) of a SINGER", x.voice(1, 3, 5), PARTED);
    due("voice(1, 3, 0) of a SINGER", x.voice(1, 3, 0), PARTED);
    due("told(6)", x.told(6), 3);
    due("voice(1, 0, 5)", x.voice(1, 0, 5), (5 + 1 - 4) * 3);
    due("count(6)", x.count(6), 3);
    x.become(1, 40);
    due("voice(1, 3, 7) by 0 - 1", x.voice(1, 3, 7), -7 + ((1 + 1 - 4) * 3) * 2);
    due("count(6)", x.count(6), 6);
    due("body(0)", x.body(0), 21);
    due("body(1)", x.body(1), 13);
    due("body(2)", x.body(2), 11);
    due("body(5)", x.body(5), 10);
    due("body(6)", x.body(6), NONE);
    due("voice(2, 0, 0)", x.voice(2, 0, 0), BEYOND);
    due("count(6) stays behind BEYOND", x.count(6), 6);
    due("body(0) stays behind BEYOND", x.body(0), 21);
  }

  private static void voicesThatWrap() {
    topic = "4, ints that wrap";
    PlayParts x = new PlayParts();
    for (int kind = 0; kind < 7; kind++) {
      x.part(10 * kind + 5);
    }
    due("a SPEAKER says MAX + 1 - 4", x.voice(1, 0, MAX), MAX - 3);
    due("a CROWN says MAX + 2", x.voice(2, 0, MAX), MIN + 1);
    due("a SPEAKER says MIN + 1 - 4", x.voice(1, 0, MIN), MAX - 2);
    due("a SINGER says (MIN + 4 - 4) * 3", x.voice(4, 0, MIN), MIN);
    due("a PART sings MAX * 2", x.voice(0, 1, MAX), -2);
    due("a CROWN sings 0 - MIN", x.voice(2, 1, 0x40000000 - 2), MIN);
    due("a CAMEL sings 0 - (MAX + 1 + 5) * 2", x.voice(5, 1, MAX), -10);
    due("a PART waits MIN - 5", x.voice(0, 2, 0x40000000), MAX - 4);
    due("a PART parts MIN by 5", x.voice(0, 3, MIN), MIN / 5);
    due("a STAR parts MIN by -1", x.voice(6, 3, MIN), MIN);
    due("a BEAST waits -1 / 2, cut toward 0", x.voice(3, 2, -1), 1);
    due("a BEAST waits 1 / 2, cut toward 0", x.voice(3, 2, 1), 1);
    due("a BEAST waits -3 / 2, cut toward 0", x.voice(3, 2, -3), (-1 + 3) * 2 - 5);
    due("a BEAST waits MIN / 2", x.voice(3, 2, MIN), MIN + 1);
    due("a SINGER waits with all bits", x.voice(4, 2, 0), -5 ^ 4);
    due("a SINGER waits: 7 ^ 4, not 7 | 4", x.voice(4, 2, 2), 3);
    due("a STAR says 9 to all", x.voice(6, 0, MIN), 9);
    due("a STAR sings 9 * 2 + 5 to all", x.voice(6, 1, MAX), 23);
    due("told(1)", x.told(1), 0);
    due("told(6)", x.told(6), 0);
    // An answer may be below LOW: it is no ERROR then.
    due("a PART says what is like STATE", x.voice(0, 0, STATE), STATE);
    due("told(3)", x.told(3), 0);
  }

  /** No VOICE comes to more than six BODIES, so THE TRACE is never full. */
  private static void howManyBodies() {
    topic = "4 and 27, how many";
    int[][] many = {
      {1, 2, 3, 1}, {2, 3, 4, 5}, {1, 3, 4, 1}, {1, 2, 4, 1}, {3, 4, 6, 6}, {1, 4, 5, 1}, {1, 3, 4, 1}
    };
    int[][] last = {
      {10, 10, 10, 13}, {10, 10, 10, 10}, {10, 10, 10, 13}, {10, 10, 10, 13}, {10, 10, 10, 10}, {10, 10, 10, 13},
      {70, 70, 70, 13}
    };
    PlayParts x = new PlayParts();
    due("body(0) ahead of all", x.body(0), NONE);
    for (int kind = 0; kind < 7; kind++) {
      x.part(10 * kind + 9);
    }
    for (int kind = 0; kind < 7; kind++) {
      for (int voice = 0; voice < 4; voice++) {
        String call = "voice(" + kind + ", " + voice + ", 3)";
        x.voice(kind, voice, 3);
        int count = many[kind][voice];
        due("count(6) behind " + call, x.count(6), count);
        due("the last one behind " + call, x.body(count - 1), last[kind][voice]);
        due("one more behind " + call, x.body(count), NONE);
        due("body(29) behind " + call, x.body(29), NONE);
        due("body(30) behind " + call, x.body(30), NONE);
        due("body(-1) behind " + call, x.body(-1), NONE);
      }
    }
    due("told(2)", x.told(2), 1 + 28 * 4);
    due("told(1)", x.told(1), 0);
  }

  // ---- sheets

  /** What the only one of the CHILDREN, who may play all seven PARTS, has by a number of a SHEET (-2: it stops). */
  private static int cast(int bits, int v) {
    PlayParts x = of(7, 1);
    row(x, 2, bits, v);
    int casts = x.casts(2);
    due("judge(2) of " + v, x.judge(2), casts);
    return casts == 0 ? -2 : x.childIs(0, 5);
  }

  private static void sheetsOfBits() {
    topic = "28 and 29, bits";
    int[] numbers = {6, 7, -1, -2, 127, 128, 255, 256, 262, 511, 32767, 32768, 65535, 65536, 65542, MIN, MAX, MIN + 6, -250};
    int[] by8 = {6, -2, -1, -2, -2, -2, -1, 0, 6, -1, -1, 0, -1, 0, 6, 0, -1, 6, 6};
    int[] by16 = {6, -2, -1, -2, -2, -2, -2, -2, -2, -2, -2, -2, -1, 0, 6, 0, -1, 6, -2};
    int[] by32 = {6, -2, -1, -2, -2, -2, -2, -2, -2, -2, -2, -2, -2, -2, -2, -2, -2, -2, -2};
    for (int i = 0; i < numbers.length; i++) {
      due("8 bits of " + numbers[i], cast(8, numbers[i]), by8[i]);
      due("16 bits of " + numbers[i], cast(16, numbers[i]), by16[i]);
      due("32 bits of " + numbers[i], cast(32, numbers[i]), by32[i]);
    }
    // A SHEET made anew is all 0, of the bits and the length that it has then.
    PlayParts x = of(7, 7);
    row(x, 0, 8, 6, 5, 4, 3, 2, 1, 0);
    due("sheet(0, 8, 24)", x.sheet(0, 8, 24), 1);
    due("casts(0): 0, and 0 again", x.casts(0), 1);
    due("put(0, 23, 1)", x.put(0, 23, 1), 1);
    due("sheet(0, 32, 1)", x.sheet(0, 32, 1), 1);
    due("put(0, 1, 1)", x.put(0, 1, 1), BEYOND);
    due("put(0, 0, 257)", x.put(0, 0, 257), 1);
    due("casts(0) of 257", x.casts(0), 0);
    due("sheet(0, 0, 24)", x.sheet(0, 0, 24), 1);
    due("put(0, 0, 1)", x.put(0, 0, 1), NONE);
    due("sheet(0, 0, 24) of a missing one", x.sheet(0, 0, 24), 1);
    due("sheet(0, 16, 2) behind it", x.sheet(0, 16, 2), 1);
    due("casts(0): 0, and 0 again", x.casts(0), 1);
    row(x, 3, 8, 2);
    due("the other ones stay", x.put(1, 0, 0), NONE);
    due("casts(0)", x.casts(0), 1);
  }

  private static void movesInOne() {
    topic = "30";
    for (int bits : new int[] {8, 16, 32}) {
      PlayParts x = of(7, 7);
      row(x, 0, bits, 0, 1, 2, 3, 4, 5, 6, 9);
      due("up by 1, as they all were", x.move(0, 0, 0, 1, 7), 7);
      x.put(0, 0, -1);
      due("casts(0)", x.casts(0), 7);
      has(x, -1, 0, 1, 2, 3, 4, 5);
      row(x, 0, bits, 9, 0, 1, 2, 3, 4, 5, 6);
      due("down by 1, as they all were", x.move(0, 1, 0, 0, 7), 7);
      due("casts(0)", x.casts(0), 7);
      has(x, 0, 1, 2, 3, 4, 5, 6);
      due("to itself", x.move(0, 0, 0, 0, 8), 8);
      due("casts(0)", x.casts(0), 7);
      due("of none", x.move(0, 8, 0, 8, 0), 0);
      due("of none", x.move(0, 0, 0, 8, 0), 0);
      row(x, 3, bits, -1, -1, -1, -1, -1, -1, -1, -1);
      due("all", x.move(0, 0, 3, 0, 8), 8);
      due("casts(3)", x.casts(3), 7);
      has(x, 0, 1, 2, 3, 4, 5, 6);
      row(x, 1, bits, -1, -1, -1);
      due("two in the middle", x.move(3, 5, 1, 1, 2), 2);
      due("casts(1)", x.casts(1), 3);
      has(x, -1, 5, 6, -1);
      x.sheet(2, bits, 0);
      due("to one of no numbers", x.move(0, 0, 2, 0, 0), 0);
      due("to one of no numbers", x.move(0, 0, 2, 0, 1), BEYOND);
      due("from one of no numbers", x.move(2, 0, 0, 0, 1), BEYOND);
      x.sheet(1, bits, 24);
      x.sheet(2, bits, 24);
      x.put(1, 23, 4);
      due("all 24", x.move(1, 0, 2, 0, 24), 24);
      due("the last one", x.move(2, 23, 2, 0, 1), 1);
      due("the last one", x.move(2, 24, 2, 0, 1), BEYOND);
      due("casts(2)", x.casts(2), 2);
      has(x, 4, 0, -1);
    }
  }

  private static void castsUpTo() {
    topic = "31";
    PlayParts x = of(2, 3);
    x.cast(0, 1);
    x.cast(1, 0);
    row(x, 0, 8);
    due("casts(0) of no numbers", x.casts(0), 0);
    has(x, -1, -1, -1);
    row(x, 0, 8, 1);
    x.cast(2, 1);
    due("casts(0) of one", x.casts(0), 1);
    has(x, 1, -1, -1);
    row(x, 0, 8, 0, 0, 1);
    due("casts(0), one ahead has it", x.casts(0), 1);
    has(x, 0, -1, -1);
    row(x, 0, 8, -1, -1, -1, -1);
    due("casts(0), nobody for the fourth, who would have none", x.casts(0), 3);
    row(x, 0, 8, 0, 1, -1, -1);
    due("casts(0), nobody for the fourth", x.casts(0), 3);
    has(x, 0, 1, -1);
    row(x, 0, 8, 0, 2, 1);
    due("casts(0), no such PART", x.casts(0), 1);
    has(x, 0, -1, -1);
    row(x, 0, 8, -2, 0, 1);
    due("casts(0), -2 is no PART, nor none", x.casts(0), 0);
    has(x, -1, -1, -1);
    x.falls(1, 1);
    row(x, 0, 8, 0, 1, -1);
    due("casts(0), who is ill", x.casts(0), 1);
    has(x, 0, -1, -1);
    row(x, 0, 8, 0, -1, 1);
    due("casts(0), who is ill, has none", x.casts(0), 3);
    has(x, 0, -1, 1);
    x.sheet(0, 8, 24);
    due("casts(0) of 24 numbers", x.casts(0), 1);
    row(x, 0, 8, 0);
    due("casts(0) of nobody", casts(new PlayParts()), 0);
    due("no ERROR", x.told(1) + x.told(2) + x.told(3) + x.told(5), 0);
  }

  private static int casts(PlayParts x) {
    row(x, 0, 8, -1);
    return x.casts(0);
  }

  private static void judgesUpTo() {
    topic = "32";
    PlayParts x = of(3, 3);
    x.cast(0, 2);
    x.cast(2, 0);
    int[][] rows = {
      {}, {2}, {2, -1}, {2, -1, 0}, {1, -1, 0}, {2, 0, 0}, {2, -1, 1}, {2, -1, 0, 1}, {-1}, {3}, {2, -2}, {2, -1, -1}
    };
    int[] right = {0, 1, 2, 3, 0, 1, 2, 3, 0, 0, 1, 2};
    for (int i = 0; i < rows.length; i++) {
      row(x, 3, 16, rows[i]);
      due("judge(3) of " + Arrays.toString(rows[i]), x.judge(3), right[i]);
      has(x, 2, -1, 0);
    }
    // One who may play it no more still has it.
    x.falls(0, 1);
    x.become(2, 19);
    row(x, 3, 16, 2, -1, 0);
    due("judge(3)", x.judge(3), 3);
    x.sheet(3, 16, 24);
    due("judge(3) of 24", x.judge(3), 0);
    due("no ERROR", x.told(1) + x.told(2) + x.told(3), 0);
  }

  // ---- images, what is told

  private static void whatAnImageKeeps() {
    topic = "33 and 34, kept";
    PlayParts x = new PlayParts();
    due("image() of nothing", x.image(), 1);
    x.part(5);
    x.child(5, 5, 0);
    text(x, 0, "7");
    text(x, 1, "w+1");
    x.cast(0, 0);
    x.play();
    feed(x, "1+1");
    x.tell(5);
    x.seed(4);
    due("restore() of nothing", x.restore(), 0);
    int[] counts = {0, 0, 0, 0, 0, 0, 0, 1};
    for (int what = 0; what < 8; what++) {
      due("count(" + what + ")", x.count(what), counts[what]);
    }
    due("untell(0)", x.untell(0), 0);
    due("untell(1)", x.untell(1), 0);
    due("part(12) is number 0 again", x.part(12), 0);
    due("child(1, 2, 1) is number 0 again", x.child(1, 2, 1), 0);
    int[] is = {1, 2, 1, 0, -1, -1, -1, -1, -1, 0};
    for (int what = 0; what < 10; what++) {
      due("childIs(0, " + what + "), as at first", x.childIs(0, what), is[what]);
    }
    due("restore() again, the IMAGE stays", x.restore(), 0);
    due("count(0)", x.count(0), 0);
    due("restore() once more", x.restore(), 0);
    // What is full is full again, and what has gone comes again.
    x = of(7, 7);
    for (int i = 0; i < 24; i++) {
      x.tell(0);
    }
    feed(x, ones(60));
    x.falls(3, 1);
    x.cast(5, 2);
    due("image()", x.image(), 1);
    due("check()", x.check(), 8);
    due("text(0)", x.text(0), -70);
    due("restore()", x.restore(), 0);
    due("tell(0)", x.tell(0), FULL);
    due("feed", x.feed('1', 1), FULL);
    due("part(0)", x.part(0), FULL);
    due("child(0, 1, 0)", x.child(0, 1, 0), FULL);
    due("childIs(3, 3)", x.childIs(3, 3), 1);
    due("childIs(5, 5)", x.childIs(5, 5), 2);
    due("check()", x.check(), 8);
    due("text(0)", x.text(0), -70);
  }

  private static void whatAnImageLeaves() {
    topic = "33 and 34, not kept";
    PlayParts x = of(2, 2);
    row(x, 0, 8, 1, 0);
    x.voice(1, 0, 3);
    x.image();
    x.part(70);
    x.voice(0, 1, 3);
    row(x, 0, 16, 0, 1, 0);
    row(x, 2, 32, 1);
    due("restore()", x.restore(), 0);
    due("casts(0), the SHEET as it is", x.casts(0), 2);
    has(x, 0, 1);
    due("put(0, 2, 1)", x.put(0, 2, 1), 1);
    due("casts(2)", x.casts(2), 1);
    due("count(6), THE TRACE as it is", x.count(6), 2);
    due("body(0)", x.body(0), 11);
    due("told(1), as it is", x.told(1), 1);
    due("image(), how often it was done", x.image(), 2);
    x.restore();
    due("image(), how often it was done", x.image(), 3);
    // A refused restore() leaves how often it was done, and a new object has none of another one's IMAGE.
    PlayParts y = new PlayParts();
    due("restore() of another one", y.restore(), NONE);
    due("image() of another one", y.image(), 1);
    // YEAR is what is answered, of the IMAGE.
    y.play();
    y.play();
    y.image();
    y.play();
    due("restore()", y.restore(), 2);
    due("image()", y.image(), 3);
  }

  private static int check(PlayParts x, int... numbers) {
    for (int i = 0; i < numbers.length; i++) {
      due("tell " + i, x.tell(numbers[i]), i + 1);
    }
    due("count(5)", x.count(5), numbers.length);
    int answer = x.check();
    due("count(5) behind check()", x.count(5), 0);
    return answer;
  }

  private static void checks() {
    topic = "35 and 36";
    PlayParts x = new PlayParts();
    due("check() of none, of nobody", check(x), 0);
    due("check() of one, of nobody", check(x, 0), 1);
    x = of(7, 7);
    x.wishes(6, 0, 6);
    x.cast(6, 6);
    due("check() of none", check(x), 0);
    due("check() of one", check(x, 0), 0);
    due("check() of one that isn't so", check(x, 1), 1);
    due("check() of all", check(x, 0, 0, 0, 0, 0, 0, 30), 0);
    due("check(), the last one isn't so", check(x, 0, 0, 0, 0, 0, 0, 29), 7);
    due("check(), the first of two that aren't so", check(x, 0, 0, 9, 0, 9, 0, 30), 3);
    due("check(), nobody for the eighth", check(x, 0, 0, 0, 0, 0, 0, 30, 0), 8);
    due("check() of 24", check(x, 0, 0, 0, 0, 0, 0, 30, 0, 0, 0, 0, 0, 0, 0, 0, 0, 0, 0, 0, 0, 0, 0, 0, 0), 8);
    due("check() of ends", check(x, MIN, MAX), 1);
    due("check() of ends", check(x, 0, MAX), 2);
    for (int i = 0; i < 24; i++) {
      due("tell", x.tell(0), i + 1);
    }
    due("tell of 24", x.tell(5), FULL);
    due("tell of 24", x.tell(5), FULL);
    due("told(4)", x.told(4), 2);
    due("check()", x.check(), 7);
    due("tell", x.tell(5), 1);
    // JOY as it is now, not as it was told.
    x.check();
    x.tell(0);
    text(x, 1, "3");
    due("check() by a new TEXT", x.check(), 1);
  }

  /** Where the document may be read in more than one way: what is built (NOTES.md). */
  private static void built() {
    topic = "what is built";
    PlayParts x = new PlayParts();
    x.part(5);
    x.part(11);
    x.part(2);
    x.voice(0, 1, 4);
    due("voice(1, 3, 5)", x.voice(1, 3, 5), PARTED);
    due("count(6), the BODIES that had begun", x.count(6), 2);
    due("body(0)", x.body(0), 21);
    due("body(1)", x.body(1), 13);
    due("body(2)", x.body(2), NONE);
    PlayParts y = of(1, 1);
    row(y, 0, 8, 0, -1);
    due("fits(0, 0), nobody for the second", y.fits(0, 0), 0);
    due("fits(0, 1), nobody for the second", y.fits(0, 1), NONE);
    row(y, 0, 8, 0, 0);
    due("fits(0, 0), nobody for the second", y.fits(0, 0), 0);
    due("fits(0, 1), nobody for the second", y.fits(0, 1), NONE);
    row(y, 0, 8, 0);
    due("fits(0, 0) of as many as there are", y.fits(0, 0), 256);
    y.sheet(0, 8, 24);
    due("fits(0, 0) of 24", y.fits(0, 0), 0);
    row(y, 0, 8, 0, -1);
    due("casts(0), nobody for the second", y.casts(0), 1);
    due("judge(0), nobody for the second", y.judge(0), 1);
  }
}
