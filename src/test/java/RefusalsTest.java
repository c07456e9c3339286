import java.util.ArrayList;
import java.util.List;
import java.util.function.Supplier;

/**
 * What each act refuses: each argument at the last value that is taken and the first that is refused, on each side;
 * the ERROR that is asked first, where two would do; and that behind a refused call nothing has changed but told().
 *
 * <p>The last is tried on two objects that were used alike: one refuses a call, then all that can be seen of both is
 * compared. What is seen takes calls, too, but no object comes above 512 of them.
 */
public final class RefusalsTest {
  private static final int LOW = -1000000000;
  private static final int BEYOND = LOW - 1;
  private static final int NONE = LOW - 2;
  private static final int STATE = LOW - 3;
  private static final int FULL = LOW - 4;
  private static final int KIND = LOW - 5;
  private static final int PARTED = LOW - 6;
  private static final int MIN = Integer.MIN_VALUE;
  private static final int MAX = Integer.MAX_VALUE;

  private static int asked = 0;
  private static int wrong = 0;

  /** A call with some arguments. */
  private interface Call {
    int on(PlayParts x, int[] a);
  }

  private static void due(String call, long got, long want) {
    asked++;
    if (got != want) {
      wrong++;
      System.out.println(call + " answered " + got + ", due is " + want);
    }
  }

  public static void main(String[] args) {
    partsAndChildren();
    childrensActs();
    texts();
    years();
    theBestCast();
    voices();
    sheets();
    puts();
    moves();
    castsAndJudge();
    imagesAndTold();
    ofANewObject();
    whereAllIsFull();
    whereOneLessThanFull();
    whatIsAskedFirst();
    whatTakesAnyNumber();
    System.out.println(asked + " answers asked, " + wrong + " wrong");
    if (wrong != 0) {
      System.exit(1);
    }
  }

  // ---- objects to refuse calls

  private static void feed(PlayParts x, String signs) {
    for (int i = 0; i < signs.length(); i++) {
      x.feed(signs.charAt(i), 1);
    }
  }

  private static void text(PlayParts x, int use, String signs) {
    feed(x, signs);
    due("text " + signs, x.text(use), 1);
  }

  private static void row(PlayParts x, int sheet, int bits, int... numbers) {
    x.sheet(sheet, bits, numbers.length);
    for (int i = 0; i < numbers.length; i++) {
      x.put(sheet, i, numbers[i]);
    }
  }

  /** 4 PARTS, 3 CHILDREN, and some of all else; SHEET 3 is missing. */
  private static PlayParts midway() {
    PlayParts x = unkept();
    x.image();
    x.seed(5);
    x.wishes(1, 0, 2);
    x.cast(1, 2);
    x.falls(2, 1);
    x.become(0, 3);
    x.voice(1, 2, 7);
    return x;
  }

  /** As it is without an IMAGE. */
  private static PlayParts unkept() {
    PlayParts x = new PlayParts();
    x.part(5);
    x.part(14);
    // A BEAST whose number is its m: it parts by 0.
    x.part(32);
    x.part(65);
    x.child(6, 4, 0);
    x.child(3, 7, 1);
    x.child(9, 2, 0);
    x.wishes(0, 0, 1);
    x.wishes(0, 1, 3);
    x.wishes(1, 2, 0);
    x.wishes(2, 0, 1);
    x.wishes(2, 1, 0);
    text(x, 0, "w*9+l");
    text(x, 1, "w+s+y");
    x.cast(0, 1);
    x.cast(1, 3);
    x.play();
    x.cast(0, 1);
    x.cast(2, 0);
    row(x, 0, 8, 1, 3, 0);
    row(x, 1, 16, 2, 0);
    row(x, 2, 8, 3, 2, 1);
    x.seed(99);
    x.tell(x.childIs(0, 9));
    x.tell(x.childIs(1, 9));
    feed(x, "w+1");
    return x;
  }

  private static PlayParts full() {
    PlayParts x = new PlayParts();
    for (int i = 0; i < 7; i++) {
      x.part(30 + i);
      x.child(i, i + 1, i % 2);
      x.wishes(i, 0, 6 - i);
    }
    fillTape(x, 60);
    for (int i = 0; i < 24; i++) {
      x.tell(i == 0 ? 0 : i);
    }
    row(x, 0, 8, 6, 5, 4, 3, 2, 1, 0);
    return x;
  }

  private static PlayParts oneLessThanFull() {
    PlayParts x = new PlayParts();
    for (int i = 0; i < 6; i++) {
      x.part(30 + i);
      x.child(i, i + 1, i % 2);
    }
    fillTape(x, 59);
    for (int i = 0; i < 23; i++) {
      x.tell(i);
    }
    return x;
  }

  private static void fillTape(PlayParts x, int length) {
    for (int i = 0; i < length; i++) {
      x.feed(i % 2 == 0 ? '1' : '+', 1);
    }
  }

  // ---- all that can be seen of an object

  private static List<Integer> look(PlayParts x, boolean withTrace) {
    List<Integer> seen = new ArrayList<>();
    if (withTrace) {
      seen.add(x.count(6));
      for (int i = 0; i < 6; i++) {
        seen.add(x.body(i));
      }
    }
    lookAtStage(x, seen);
    lookAtSheets(x, seen);
    lookAtTapeAndWaiting(x, seen);
    seen.add(x.lots());
    seen.add(x.count(7));
    seen.add(x.restore());
    lookAtStage(x, seen);
    lookAtTapeAndWaiting(x, seen);
    seen.add(x.image());
    return seen;
  }

  private static void lookAtStage(PlayParts x, List<Integer> seen) {
    for (int what : new int[] {0, 1, 2, 3, 4, 5, 7}) {
      seen.add(x.count(what));
    }
    for (int i = 0; i < 7; i++) {
      for (int what = 0; what < 5; what++) {
        seen.add(x.partIs(i, what));
      }
      for (int what = 0; what < 10; what++) {
        seen.add(x.childIs(i, what));
      }
    }
    seen.add(x.law(0, 3, 5, 7));
    seen.add(x.law(1, 3, 5, 7));
  }

  /** By what CHILDREN have of them, and by which numbers they hold. */
  private static void lookAtSheets(PlayParts x, List<Integer> seen) {
    for (int sheet = 0; sheet < 4; sheet++) {
      seen.add(x.casts(sheet));
      for (int i = 0; i < 3; i++) {
        seen.add(x.childIs(i, 5));
      }
      for (int i : new int[] {0, 1, 2, 3, 7, 23}) {
        seen.add(x.put(sheet, i, 0));
      }
      for (int v : new int[] {257, 65537}) {
        seen.add(x.put(sheet, 0, v));
        seen.add(x.casts(sheet));
        seen.add(x.childIs(0, 5));
      }
    }
  }

  private static void lookAtTapeAndWaiting(PlayParts x, List<Integer> seen) {
    seen.add(x.check());
    seen.add(x.text(1));
    seen.add(x.law(1, 3, 5, 7));
  }

  // ---- how they are tried

  private static void refused(String call, int error, Supplier<PlayParts> made, Call act, int... a) {
    PlayParts x = made.get();
    PlayParts untouched = made.get();
    due(call, act.on(x, a), error);
    for (int k = 1; k <= 6; k++) {
      int more = k == LOW - error ? 1 : 0;
      due("told(" + k + ") behind " + call, x.told(k), untouched.told(k) + more);
    }
    // What the document says of THE TRACE behind PARTED is not that it stays.
    List<Integer> seen = look(x, error != PARTED);
    List<Integer> want = look(untouched, error != PARTED);
    for (int i = 0; i < want.size(); i++) {
      due("what is seen in place " + i + " behind " + call, seen.get(i), want.get(i));
    }
  }

  private static void taken(String call, Supplier<PlayParts> made, Call act, int... a) {
    PlayParts x = made.get();
    int before = x.told(1);
    due(call + " is BEYOND", act.on(x, a) == BEYOND ? 1 : 0, 0);
    due("told(1) behind " + call, x.told(1), before);
  }

  /** Each argument in turn at its ends, and one beyond them; the others at their least. */
  private static void ends(String name, Call act, int[] least, int[] most) {
    ends(name, RefusalsTest::midway, act, least, most);
  }

  private static void ends(String name, Supplier<PlayParts> made, Call act, int[] least, int[] most) {
    for (int i = 0; i < least.length; i++) {
      for (int v : new int[] {MIN, least[i] - 1, most[i] + 1, MAX}) {
        refused(name + told(least, i, v), BEYOND, made, act, with(least, i, v));
        taken(name + told(least, i, most[i]), made, act, with(least, i, most[i]));
      }
    }
    taken(name + told(least, 0, least[0]), made, act, least.clone());
    taken(name + told(most, 0, most[0]), made, act, most.clone());
  }

  private static int[] with(int[] a, int i, int v) {
    int[] other = a.clone();
    other[i] = v;
    return other;
  }

  private static String told(int[] a, int i, int v) {
    StringBuilder text = new StringBuilder("(");
    for (int k = 0; k < a.length; k++) {
      text.append(k == 0 ? "" : ", ").append(k == i ? v : a[k]);
    }
    return text.append(")").toString();
  }

  private static int[] row(int... numbers) {
    return numbers;
  }

  // ---- what is refused

  private static void partsAndChildren() {
    ends("part", (x, a) -> x.part(a[0]), row(0), row(69));
    ends("partIs", (x, a) -> x.partIs(a[0], a[1]), row(0, 0), row(3, 4));
    ends("become", (x, a) -> x.become(a[0], a[1]), row(0, 0), row(3, 69));
    ends("as", (x, a) -> x.as(a[0], a[1]), row(0, 0), row(3, 6));
    refused("as(1, 4), a SPEAKER as a SINGER", KIND, RefusalsTest::midway, (x, a) -> x.as(1, 4));
    refused("as(1, 2), a SPEAKER as a CROWN", KIND, RefusalsTest::midway, (x, a) -> x.as(1, 2));
    ends("child", (x, a) -> x.child(a[0], a[1], a[2]), row(0, 1, 0), row(9, 9, 1));
    ends("childIs", (x, a) -> x.childIs(a[0], a[1]), row(0, 0), row(2, 9));
  }

  private static void childrensActs() {
    ends("wishes", (x, a) -> x.wishes(a[0], a[1], a[2]), row(0, 0, -1), row(2, 2, 3));
    ends("falls", (x, a) -> x.falls(a[0], a[1]), row(0, 0), row(2, 1));
    ends("worth", (x, a) -> x.worth(a[0], a[1]), row(0, 0), row(2, 3));
    Call cast = (x, a) -> x.cast(a[0], a[1]);
    ends("cast", cast, row(0, -1), row(2, 3));
    refused("cast(1, 1), who reads too little", STATE, RefusalsTest::midway, cast, 1, 1);
    refused("cast(0, 0), which another one has", STATE, RefusalsTest::midway, cast, 0, 0);
    refused("cast(2, 3), who is ill", STATE, RefusalsTest::midway, cast, 2, 3);
    refused("cast(2, 0), who is ill and has it", STATE, RefusalsTest::midway, cast, 2, 0);
    refused("cast(2, 2), who is ill, which another one has", STATE, RefusalsTest::midway, cast, 2, 2);
  }

  private static void texts() {
    ends("feed", (x, a) -> x.feed(0x3131313131313131L, a[0]), row(1), row(8));
    ends("text", (x, a) -> x.text(a[0]), row(0), row(1));
    ends("untell", (x, a) -> x.untell(a[0]), row(0), row(1));
    ends("law", (x, a) -> x.law(a[0], 1, 2, 3), row(0), row(1));
  }

  private static void years() {
    ends("loose", (x, a) -> x.loose(a[0]), row(1), row(20));
  }

  private static void theBestCast() {
    ends("best", (x, a) -> x.best(a[0]), row(-1), row(6));
    refused("best(3), the first that there is none of", NONE, RefusalsTest::midway, (x, a) -> x.best(3));
    refused("best(6)", NONE, RefusalsTest::midway, (x, a) -> x.best(6));
    due("best(2), the last one of the CHILDREN", midway().best(2), -1);
    ends("without", (x, a) -> x.without(a[0]), row(0), row(2));
    ends("lies", (x, a) -> x.lies(a[0], a[1]), row(0, 0), row(2, 1));
    ends("odds", (x, a) -> x.odds(a[0], a[1]), row(0, 0), row(2, 1));
    refused("odds(2, 0), who is ill", STATE, RefusalsTest::midway, (x, a) -> x.odds(2, 0));
    refused("odds(2, 1), who is ill", STATE, RefusalsTest::midway, (x, a) -> x.odds(2, 1));
    ends("fits", (x, a) -> x.fits(a[0], a[1]), row(0, 0), row(3, 1));
    refused("fits(3, 0), missing", NONE, RefusalsTest::midway, (x, a) -> x.fits(3, 0));
    refused("fits(3, 1), missing", NONE, RefusalsTest::midway, (x, a) -> x.fits(3, 1));
    refused("fits(0, 1), of one who is ill", NONE, RefusalsTest::midway, (x, a) -> x.fits(0, 1));
    due("fits(0, 0), of one who is ill", midway().fits(0, 0), 0);
  }

  private static void voices() {
    ends("voice", (x, a) -> x.voice(a[0], a[1], 7), row(0, 0), row(3, 3));
    refused("voice(2, 3, 7), parted by 0", PARTED, RefusalsTest::midway, (x, a) -> x.voice(2, 3, 7));
    for (int i : new int[] {MIN, -1, 4, 5, 29, 30, MAX}) {
      refused("body(" + i + ") of 4", NONE, RefusalsTest::midway, (x, a) -> x.body(i));
    }
    due("body(0) of 4", midway().body(0), 12);
    due("body(3) of 4", midway().body(3), 10);
  }

  private static void sheets() {
    Call sheet = (x, a) -> x.sheet(a[0], a[1], a[2]);
    ends("sheet, of number,", (x, a) -> x.sheet(a[0], 8, 2), row(0), row(3));
    for (int bits : new int[] {MIN, -32, -8, -1, 1, 7, 9, 15, 17, 24, 31, 33, 64, 256, MAX}) {
      refused("sheet(0, " + bits + ", 1)", BEYOND, RefusalsTest::midway, sheet, 0, bits, 1);
    }
    for (int bits : new int[] {8, 16, 32}) {
      for (int n : new int[] {-1, -2, -25, MIN}) {
        refused("sheet(0, " + bits + ", " + n + ")", STATE, RefusalsTest::midway, sheet, 0, bits, n);
      }
      for (int n : new int[] {25, 26, 256, MAX}) {
        refused("sheet(0, " + bits + ", " + n + ")", BEYOND, RefusalsTest::midway, sheet, 0, bits, n);
      }
      due("sheet(3, " + bits + ", 0)", midway().sheet(3, bits, 0), 1);
      due("sheet(3, " + bits + ", 24)", midway().sheet(3, bits, 24), 1);
    }
    for (int n : new int[] {MIN, -1, 0, 1, 24, 25, MAX}) {
      due("sheet(0, 0, " + n + ")", midway().sheet(0, 0, n), 1);
    }
  }

  private static void puts() {
    Call put = (x, a) -> x.put(a[0], a[1], a[2]);
    ends("put, of number,", (x, a) -> x.put(a[0], 0, 2), row(0), row(3));
    for (int i : new int[] {MIN, -1, 0, 24, MAX}) {
      refused("put(3, " + i + ", 2), missing", NONE, RefusalsTest::midway, put, 3, i, 2);
    }
    for (int i : new int[] {MIN, -1, 3, 23, 24, MAX}) {
      refused("put(0, " + i + ", 2) of 3", BEYOND, RefusalsTest::midway, put, 0, i, 2);
    }
    due("put(0, 0, 2) of 3", midway().put(0, 0, 2), 1);
    due("put(0, 2, 2) of 3", midway().put(0, 2, 2), 1);
    PlayParts x = new PlayParts();
    x.sheet(1, 32, 0);
    due("put(1, 0, 2) of none", x.put(1, 0, 2), BEYOND);
    x.sheet(1, 32, 24);
    due("put(1, 23, 2) of 24", x.put(1, 23, 2), 1);
    due("put(1, 24, 2) of 24", x.put(1, 24, 2), BEYOND);
  }

  private static void moves() {
    Call move = (x, a) -> x.move(a[0], a[1], a[2], a[3], a[4]);
    ends("move, of numbers,", (x, a) -> x.move(a[0], 0, a[1], 0, 0), row(0, 0), row(3, 3));
    refused("move to a missing one", NONE, RefusalsTest::midway, move, 0, 0, 3, 0, 1);
    refused("move of a missing one", NONE, RefusalsTest::midway, move, 3, 0, 0, 0, 1);
    refused("move of a missing one to itself", NONE, RefusalsTest::midway, move, 3, 0, 3, 0, 0);
    refused("move from 8 to 16 bits", KIND, RefusalsTest::midway, move, 0, 0, 1, 0, 1);
    refused("move from 16 to 8 bits, of none", KIND, RefusalsTest::midway, move, 1, 0, 0, 0, 0);
    int[][] beyond = {
      {0, -1, 2, 0, 1}, {0, 0, 2, -1, 1}, {0, 0, 2, 0, -1}, {0, MIN, 2, 0, 1}, {0, 0, 2, MIN, 1}, {0, 0, 2, 0, MIN},
      {0, 0, 2, 0, 4}, {0, 1, 2, 0, 3}, {0, 0, 2, 1, 3}, {0, 3, 2, 0, 1}, {0, 0, 2, 3, 1}, {0, 4, 2, 0, 0},
      {0, 0, 2, 4, 0}, {0, MAX, 2, 0, 1}, {0, 0, 2, MAX, 1}, {0, 0, 2, 0, MAX}, {0, 1, 2, 1, MAX}, {0, MAX, 2, MAX, MAX},
      {0, -1, 0, -1, 0}, {0, 2, 0, 0, 2}, {0, 0, 0, 2, 2}, {0, MAX, 0, 0, 0}, {0, 1, 0, 0, -1}, {0, -1, 2, 0, 0},
      {0, 0, 2, -1, 0}
    };
    for (int[] a : beyond) {
      refused("move" + told(a, 0, a[0]), BEYOND, RefusalsTest::midway, move, a);
    }
    int[][] good = {
      {0, 0, 2, 0, 3}, {0, 0, 2, 0, 0}, {0, 3, 2, 3, 0}, {0, 2, 2, 2, 1}, {0, 1, 2, 0, 2}, {0, 0, 2, 1, 2}, {0, 0, 0, 0, 3},
      {0, 3, 0, 0, 0}, {0, 0, 0, 3, 0}
    };
    for (int[] a : good) {
      due("move" + told(a, 0, a[0]), midway().move(a[0], a[1], a[2], a[3], a[4]), a[4]);
    }
  }

  private static void castsAndJudge() {
    ends("casts", (x, a) -> x.casts(a[0]), row(0), row(3));
    ends("judge", (x, a) -> x.judge(a[0]), row(0), row(3));
    refused("casts(3), missing", NONE, RefusalsTest::midway, (x, a) -> x.casts(3));
    refused("judge(3), missing", NONE, RefusalsTest::midway, (x, a) -> x.judge(3));
  }

  private static void imagesAndTold() {
    refused("restore() without an IMAGE", NONE, RefusalsTest::unkept, (x, a) -> x.restore());
    ends("count", (x, a) -> x.count(a[0]), row(0), row(7));
    ends("told", (x, a) -> x.told(a[0]), row(1), row(6));
  }

  /** Where there is none of anything, the first number is BEYOND already. */
  private static void ofANewObject() {
    Supplier<PlayParts> made = PlayParts::new;
    refused("partIs(0, 0)", BEYOND, made, (x, a) -> x.partIs(0, 0));
    refused("become(0, 0)", BEYOND, made, (x, a) -> x.become(0, 0));
    refused("as(0, 0)", BEYOND, made, (x, a) -> x.as(0, 0));
    refused("childIs(0, 0)", BEYOND, made, (x, a) -> x.childIs(0, 0));
    refused("wishes(0, 0, -1)", BEYOND, made, (x, a) -> x.wishes(0, 0, -1));
    refused("falls(0, 1)", BEYOND, made, (x, a) -> x.falls(0, 1));
    refused("worth(0, 0)", BEYOND, made, (x, a) -> x.worth(0, 0));
    refused("cast(0, -1)", BEYOND, made, (x, a) -> x.cast(0, -1));
    refused("best(0)", NONE, made, (x, a) -> x.best(0));
    refused("without(0)", BEYOND, made, (x, a) -> x.without(0));
    refused("lies(0, 0)", BEYOND, made, (x, a) -> x.lies(0, 0));
    refused("odds(0, 0)", BEYOND, made, (x, a) -> x.odds(0, 0));
    refused("fits(0, 0)", NONE, made, (x, a) -> x.fits(0, 0));
    refused("voice(0, 0, 0)", BEYOND, made, (x, a) -> x.voice(0, 0, 0));
    refused("body(0)", NONE, made, (x, a) -> x.body(0));
    refused("put(0, 0, 0)", NONE, made, (x, a) -> x.put(0, 0, 0));
    refused("move(0, 0, 0, 0, 0)", NONE, made, (x, a) -> x.move(0, 0, 0, 0, 0));
    refused("casts(0)", NONE, made, (x, a) -> x.casts(0));
    refused("judge(0)", NONE, made, (x, a) -> x.judge(0));
    refused("restore()", NONE, made, (x, a) -> x.restore());
    PlayParts x = new PlayParts();
    x.child(1, 1, 0);
    due("wishes(0, 0, 0) of no PART", x.wishes(0, 0, 0), BEYOND);
    due("wishes(0, 0, -1) of no PART", x.wishes(0, 0, -1), -1);
    due("worth(0, 0) of no PART", x.worth(0, 0), BEYOND);
    due("cast(0, 0) of no PART", x.cast(0, 0), BEYOND);
    due("cast(0, -1) of no PART", x.cast(0, -1), -1);
    due("odds(0, 0) of no PART", x.odds(0, 0), STATE);
  }

  private static void whereAllIsFull() {
    Supplier<PlayParts> made = RefusalsTest::full;
    for (int km : new int[] {0, 35, 69}) {
      refused("part(" + km + ") of 7", FULL, made, (x, a) -> x.part(km));
    }
    refused("child(0, 1, 0) of 7", FULL, made, (x, a) -> x.child(0, 1, 0));
    refused("child(9, 9, 1) of 7", FULL, made, (x, a) -> x.child(9, 9, 1));
    refused("feed(.., 1) behind 60", FULL, made, (x, a) -> x.feed('1', 1));
    refused("feed(.., 8) behind 60", FULL, made, (x, a) -> x.feed('1', 8));
    refused("tell(0) of 24", FULL, made, (x, a) -> x.tell(0));
    // All that may be asked of the last ones.
    ends("partIs of 7", made, (x, a) -> x.partIs(a[0], a[1]), row(0, 0), row(6, 4));
    ends("childIs of 7", made, (x, a) -> x.childIs(a[0], a[1]), row(0, 0), row(6, 9));
    ends("wishes of 7", made, (x, a) -> x.wishes(a[0], a[1], a[2]), row(0, 0, -1), row(6, 2, 6));
    ends("cast of 7", made, (x, a) -> x.cast(a[0], a[1]), row(0, -1), row(6, 6));
    ends("without of 7", made, (x, a) -> x.without(a[0]), row(0), row(6));
    ends("lies of 7", made, (x, a) -> x.lies(a[0], a[1]), row(0, 0), row(6, 1));
    ends("voice of 7", made, (x, a) -> x.voice(a[0], a[1], 7), row(0, 0), row(6, 3));
    due("best(6) of 7", full().best(6), 0);
  }

  private static void whereOneLessThanFull() {
    Supplier<PlayParts> made = RefusalsTest::oneLessThanFull;
    due("part(69) of 6", made.get().part(69), 6);
    due("child(9, 9, 1) of 6", made.get().child(9, 9, 1), 6);
    due("feed(.., 1) behind 59", made.get().feed('+', 1), 60);
    due("tell(0) of 23", made.get().tell(0), 24);
    refused("feed(.., 2) behind 59", FULL, made, (x, a) -> x.feed('1', 2));
    refused("feed(.., 8) behind 59", FULL, made, (x, a) -> x.feed('1', 8));
    for (int n = 1; n <= 8; n++) {
      PlayParts x = new PlayParts();
      fillTape(x, 60 - n);
      due("feed(.., " + n + ") up to 60", x.feed(0x3131313131313131L, n), 60);
      PlayParts y = new PlayParts();
      fillTape(y, 61 - n);
      due("feed(.., " + n + ") up to 61", y.feed(0x3131313131313131L, n), FULL);
      due("count(4)", y.count(4), 61 - n);
    }
  }

  /** Two ERRORS would do: the one that the document names first is answered. */
  private static void whatIsAskedFirst() {
    Supplier<PlayParts> full = RefusalsTest::full;
    Supplier<PlayParts> midway = RefusalsTest::midway;
    refused("part(70) of 7", BEYOND, full, (x, a) -> x.part(70));
    refused("part(-1) of 7", BEYOND, full, (x, a) -> x.part(-1));
    refused("child(10, 1, 0) of 7", BEYOND, full, (x, a) -> x.child(10, 1, 0));
    refused("child(0, 0, 0) of 7", BEYOND, full, (x, a) -> x.child(0, 0, 0));
    refused("child(0, 1, 2) of 7", BEYOND, full, (x, a) -> x.child(0, 1, 2));
    refused("feed(.., 0) behind 60", BEYOND, full, (x, a) -> x.feed(1, 0));
    refused("feed(.., 9) behind 60", BEYOND, full, (x, a) -> x.feed(1, 9));
    refused("as(1, 7)", BEYOND, midway, (x, a) -> x.as(1, 7));
    refused("as(4, 1)", BEYOND, midway, (x, a) -> x.as(4, 1));
    refused("cast(3, 0), which one has", BEYOND, midway, (x, a) -> x.cast(3, 0));
    refused("cast(2, 4), who is ill", BEYOND, midway, (x, a) -> x.cast(2, 4));
    refused("best(7), which is none, too", BEYOND, midway, (x, a) -> x.best(7));
    refused("odds(2, 2), who is ill", BEYOND, midway, (x, a) -> x.odds(2, 2));
    refused("odds(2, -1), who is ill", BEYOND, midway, (x, a) -> x.odds(2, -1));
    refused("fits(3, 2), missing", BEYOND, midway, (x, a) -> x.fits(3, 2));
    refused("fits(3, -1), missing", BEYOND, midway, (x, a) -> x.fits(3, -1));
    refused("voice(2, 4, 7), parted by 0", BEYOND, midway, (x, a) -> x.voice(2, 4, 7));
    refused("sheet(4, 8, -1)", BEYOND, midway, (x, a) -> x.sheet(4, 8, -1));
    refused("sheet(-1, 8, -1)", BEYOND, midway, (x, a) -> x.sheet(-1, 8, -1));
    refused("sheet(0, 7, -1)", BEYOND, midway, (x, a) -> x.sheet(0, 7, -1));
    refused("sheet(4, 0, 0)", BEYOND, midway, (x, a) -> x.sheet(4, 0, 0));
    refused("put(4, -1, 0)", BEYOND, midway, (x, a) -> x.put(4, -1, 0));
    refused("move of none such to a missing one", BEYOND, midway, (x, a) -> x.move(4, 0, 3, 0, 0));
    refused("move of a missing one to none such", BEYOND, midway, (x, a) -> x.move(3, 0, -1, 0, 0));
    refused("move of a missing one, n -1", NONE, midway, (x, a) -> x.move(3, 0, 0, 0, -1));
    refused("move to a missing one, i 9", NONE, midway, (x, a) -> x.move(1, 9, 3, 0, 1));
    refused("move by unlike bits, n -1", KIND, midway, (x, a) -> x.move(0, 0, 1, 0, -1));
    refused("move by unlike bits, i -1", KIND, midway, (x, a) -> x.move(0, -1, 1, 0, 1));
    refused("move by unlike bits, j 9", KIND, midway, (x, a) -> x.move(0, 0, 1, 9, 1));
  }

  private static void whatTakesAnyNumber() {
    for (int v : new int[] {MIN, BEYOND, -1, 0, 1, MAX}) {
      PlayParts x = midway();
      due("seed(" + v + ")", x.seed(v), 5);
      due("count(7)", x.count(7), v);
      due("tell(" + v + ")", x.tell(v), 3);
      due("put(0, 0, " + v + ")", x.put(0, 0, v), 1);
      due("law(1, 0, " + v + ", 0)", x.law(1, 0, v, 0), Math.max(-99, Math.min(99, v)));
      due("voice(0, 0, " + v + ")", x.voice(0, 0, v), v);
      due("told(1)", x.told(1), midway().told(1));
    }
    PlayParts x = new PlayParts();
    due("feed(least, 8)", x.feed(Long.MIN_VALUE, 8), 8);
    due("feed(most, 8)", x.feed(Long.MAX_VALUE, 8), 16);
    due("feed(-1, 1)", x.feed(-1, 1), 17);
  }
}
