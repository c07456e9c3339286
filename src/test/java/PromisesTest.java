/** Each promise of the document by calls whose answers were worked out by hand. */
public final class PromisesTest {
  private static final int LOW = -1000000000;
  private static final int BEYOND = LOW - 1;
  private static final int NONE = LOW - 2;
  private static final int STATE = LOW - 3;
  private static final int FULL = LOW - 4;
  private static final int KIND = LOW - 5;
  private static final int PARTED = LOW - 6;
  private static final int MIN = Integer.MIN_VALUE;
  private static final int MAX = Integer.MAX_VALUE;

  private static int asked = 0;
  private static int wrong = 0;
  private static String topic = "";

  private static void due(String call, long got, long want) {
    asked++;
    if (got != want) {
      wrong++;
      System.out.println(topic + ": " + call + " answered " + got + ", due is " + want);
    }
  }

  public static void main(String[] args) {
    promise1();
    promise2();
    promise3();
    promise4();
    promise5();
    promise6();
    promise7();
    promise8();
    promise9();
    promise10();
    promise11();
    promise12();
    promise13();
    promise13Faults();
    promise14();
    promise15();
    promise16();
    promise16Joy();
    promise17();
    promise18();
    promise18LastYear();
    promise19();
    promise20();
    promise20Restored();
    promise21();
    promise22();
    promise23();
    promise23ByText();
    promise24();
    promise25();
    promise26();
    promise26Wraps();
    promise27();
    promise28();
    promise29();
    promise30();
    promise31();
    promise32();
    promise33And34();
    promise35();
    promise36();
    promise37();
    promise38();
    System.out.println(asked + " answers asked, " + wrong + " wrong");
    if (wrong != 0) {
      System.exit(1);
    }
  }

  /** Feeds a text's signs as bytes. */
  private static void feed(PlayParts x, String signs) {
    for (int i = 0; i < signs.length(); i++) {
      x.feed(signs.charAt(i), 1);
    }
  }

  private static int text(PlayParts x, int use, String signs) {
    feed(x, signs);
    return x.text(use);
  }

  /** Parts 0 to 6, one of each kind, m as the kind's row tells. */
  private static PlayParts ofAllKinds(int... numbers) {
    PlayParts x = new PlayParts();
    for (int kind = 0; kind < 7; kind++) {
      x.part(10 * kind + numbers[kind]);
    }
    return x;
  }

  private static void row(PlayParts x, int sheet, int bits, int... numbers) {
    x.sheet(sheet, bits, numbers.length);
    for (int i = 0; i < numbers.length; i++) {
      x.put(sheet, i, numbers[i]);
    }
  }

  private static void promise1() {
    topic = "promise 1";
    PlayParts x = new PlayParts();
    due("count(0)", x.count(0), 0);
    due("count(1)", x.count(1), 0);
    due("count(2)", x.count(2), 0);
    due("count(3)", x.count(3), 0);
    due("count(4)", x.count(4), 0);
    due("count(5)", x.count(5), 0);
    due("count(6)", x.count(6), 0);
    due("count(7)", x.count(7), 1);
    for (int k = 1; k <= 6; k++) {
      due("told(" + k + ")", x.told(k), 0);
    }
    due("untell(0)", x.untell(0), 0);
    due("untell(1)", x.untell(1), 0);
    due("restore()", x.restore(), NONE);
    for (int sheet = 0; sheet < 4; sheet++) {
      due("casts(" + sheet + ")", x.casts(sheet), NONE);
    }
    due("body(0)", x.body(0), NONE);
    due("partIs(0, 0)", x.partIs(0, 0), BEYOND);
    due("childIs(0, 0)", x.childIs(0, 0), BEYOND);
    due("best(-1)", x.best(-1), 0);
    due("wished()", x.wished(), 0);
    PlayParts other = new PlayParts();
    other.part(5);
    due("count(0) of one after another one's part(5)", x.count(0), 0);
  }

  private static void promise2() {
    topic = "promise 2";
    PlayParts x = new PlayParts();
    due("part(-1)", x.part(-1), BEYOND);
    due("part(70)", x.part(70), BEYOND);
    due("part(MIN)", x.part(MIN), BEYOND);
    due("part(MAX)", x.part(MAX), BEYOND);
    due("part(0)", x.part(0), 0);
    due("part(69)", x.part(69), 1);
    due("part(10)", x.part(10), 2);
    due("part(29)", x.part(29), 3);
    due("part(35)", x.part(35), 4);
    due("part(47)", x.part(47), 5);
    due("part(53)", x.part(53), 6);
    due("part(0) of 7", x.part(0), FULL);
    due("part(70) of 7", x.part(70), BEYOND);
    due("count(0)", x.count(0), 7);
    int[] kinds = {0, 6, 1, 2, 3, 4, 5};
    int[] numbers = {0, 9, 0, 9, 5, 7, 3};
    for (int i = 0; i < 7; i++) {
      due("partIs(" + i + ", 0)", x.partIs(i, 0), kinds[i]);
      due("partIs(" + i + ", 1)", x.partIs(i, 1), numbers[i]);
    }
  }

  private static void promise3() {
    topic = "promise 3";
    PlayParts x = ofAllKinds(7, 6, 7, 9, 5, 8, 4);
    int[] lines = {7, 13, 3, 0, 11, 5, 0};
    for (int i = 0; i < 7; i++) {
      due("lines " + i, x.partIs(i, 2), lines[i]);
      due("holder " + i, x.partIs(i, 3), -1);
      due("set " + i, x.partIs(i, 4), 0);
    }
    x.play();
    due("lines of the singer in year 1", x.partIs(4, 2), 12);
    x.play();
    due("lines of the singer in year 2", x.partIs(4, 2), 13);
    due("lines of the speaker in year 2", x.partIs(1, 2), 13);
    x.play();
    due("lines of the singer in year 3", x.partIs(4, 2), 11);
    x.child(5, 4, 0);
    x.child(6, 5, 1);
    x.child(4, 7, 0);
    x.child(9, 8, 1);
    x.child(9, 9, 0);
    int[] sets = {31, 26, 7, 31, 17, 14, 10};
    for (int i = 0; i < 7; i++) {
      due("set " + i, x.partIs(i, 4), sets[i]);
    }
    x.falls(1, 1);
    x.falls(4, 1);
    int[] less = {13, 8, 5, 13, 1, 12, 8};
    for (int i = 0; i < 7; i++) {
      due("set without the ill " + i, x.partIs(i, 4), less[i]);
    }
    x.become(6, 65);
    due("set of the star of 5", x.partIs(6, 4), 13);
    x.become(6, 64);
    due("set of the star of 4", x.partIs(6, 4), 8);
    x.become(5, 59);
    due("set of the camel of 9", x.partIs(5, 4), 12);
    x.cast(3, 1);
    due("holder of 1", x.partIs(1, 3), 3);
    due("holder of 0", x.partIs(0, 3), -1);
    due("partIs(7, 0)", x.partIs(7, 0), BEYOND);
    due("partIs(-1, 0)", x.partIs(-1, 0), BEYOND);
    due("partIs(0, 5)", x.partIs(0, 5), BEYOND);
    due("partIs(0, -1)", x.partIs(0, -1), BEYOND);
    due("partIs(MIN, MAX)", x.partIs(MIN, MAX), BEYOND);
  }

  private static void promise4() {
    topic = "promise 4";
    PlayParts x = new PlayParts();
    x.part(15);
    x.part(32);
    x.child(7, 5, 0);
    x.cast(0, 0);
    due("become(0, 28)", x.become(0, 28), 1);
    due("partIs(0, 0)", x.partIs(0, 0), 2);
    due("partIs(0, 1)", x.partIs(0, 1), 8);
    due("partIs(0, 3)", x.partIs(0, 3), 0);
    due("become(0, 19)", x.become(0, 19), 2);
    due("who may not play it keeps it", x.partIs(0, 3), 0);
    due("partIs(0, 4)", x.partIs(0, 4), 0);
    due("become(0, 70)", x.become(0, 70), BEYOND);
    due("become(0, -1)", x.become(0, -1), BEYOND);
    due("become(2, 5)", x.become(2, 5), BEYOND);
    due("become(-1, 5)", x.become(-1, 5), BEYOND);
    due("partIs(0, 0)", x.partIs(0, 0), 1);
    due("partIs(0, 1)", x.partIs(0, 1), 9);
    due("partIs(1, 1)", x.partIs(1, 1), 2);
    due("become(1, 69)", x.become(1, 69), 3);
    due("become(1, 0)", x.become(1, 0), 6);
  }

  private static void promise5() {
    topic = "promise 5";
    PlayParts x = ofAllKinds(1, 2, 3, 4, 5, 6, 7);
    boolean[][] is = new boolean[7][7];
    for (int i = 0; i < 7; i++) {
      is[i][0] = true;
      is[i][i] = true;
    }
    is[4][1] = true;
    is[5][2] = true;
    for (int part = 0; part < 7; part++) {
      for (int kind = 0; kind < 7; kind++) {
        due("as(" + part + ", " + kind + ")", x.as(part, kind), is[part][kind] ? part + 1 : KIND);
      }
    }
    due("as(0, 7)", x.as(0, 7), BEYOND);
    due("as(0, -1)", x.as(0, -1), BEYOND);
    due("as(7, 0)", x.as(7, 0), BEYOND);
    due("as(-1, 0)", x.as(-1, 0), BEYOND);
  }

  private static void promise6() {
    topic = "promise 6";
    PlayParts x = new PlayParts();
    due("child(-1, 5, 0)", x.child(-1, 5, 0), BEYOND);
    due("child(10, 5, 0)", x.child(10, 5, 0), BEYOND);
    due("child(5, 0, 0)", x.child(5, 0, 0), BEYOND);
    due("child(5, 10, 0)", x.child(5, 10, 0), BEYOND);
    due("child(5, 5, -1)", x.child(5, 5, -1), BEYOND);
    due("child(5, 5, 2)", x.child(5, 5, 2), BEYOND);
    due("count(1)", x.count(1), 0);
    due("child(0, 1, 0)", x.child(0, 1, 0), 0);
    due("child(9, 9, 1)", x.child(9, 9, 1), 1);
    for (int i = 2; i < 7; i++) {
      due("child " + i, x.child(i, i, 0), i);
    }
    due("child of 7", x.child(1, 1, 1), FULL);
    due("child(10, 1, 1) of 7", x.child(10, 1, 1), BEYOND);
    due("count(1)", x.count(1), 7);
    int[] first = {0, 1, 0, 0, -1, -1, -1, -1, -1, 0};
    int[] second = {9, 9, 1, 0, -1, -1, -1, -1, -1, 0};
    for (int what = 0; what < 10; what++) {
      due("childIs(0, " + what + ")", x.childIs(0, what), first[what]);
      due("childIs(1, " + what + ")", x.childIs(1, what), second[what]);
    }
  }

  private static void promise7() {
    topic = "promise 7";
    PlayParts x = new PlayParts();
    x.part(3);
    x.part(4);
    x.part(5);
    x.child(6, 3, 1);
    x.wishes(0, 0, 2);
    x.wishes(0, 1, 0);
    x.wishes(0, 2, 1);
    x.cast(0, 1);
    due("joy by the third wish", x.childIs(0, 9), 10);
    x.cast(0, 2);
    due("joy by the first wish", x.childIs(0, 9), 30);
    x.play();
    x.cast(0, 0);
    x.falls(0, 1);
    int[] is = {6, 3, 1, 1, 2, 0, 2, 0, 1, 20};
    for (int what = 0; what < 10; what++) {
      due("childIs(0, " + what + ")", x.childIs(0, what), is[what]);
    }
    due("childIs(0, 10)", x.childIs(0, 10), BEYOND);
    due("childIs(0, -1)", x.childIs(0, -1), BEYOND);
    due("childIs(1, 0)", x.childIs(1, 0), BEYOND);
    due("childIs(-1, 9)", x.childIs(-1, 9), BEYOND);
    due("text(1)", text(x, 1, "w+100*s+y"), 1);
    due("joy held", x.childIs(0, 9), 99);
    due("text(1)", text(x, 1, "w+7*s+y"), 1);
    due("joy in year 1", x.childIs(0, 9), 28);
    x.play();
    due("joy without a part", x.childIs(0, 9), 9);
    due("text(1)", text(x, 1, "w-999*s"), 1);
    due("joy held below", x.childIs(0, 9), -99);
  }

  private static void promise8() {
    topic = "promise 8";
    PlayParts x = new PlayParts();
    x.part(3);
    x.part(4);
    x.child(6, 3, 1);
    due("wishes(0, 0, 1)", x.wishes(0, 0, 1), -1);
    due("wishes(0, 0, 0)", x.wishes(0, 0, 0), 1);
    due("wishes(0, 2, 0)", x.wishes(0, 2, 0), -1);
    due("wishes(0, 0, -1)", x.wishes(0, 0, -1), 0);
    due("wishes(0, 0, -1)", x.wishes(0, 0, -1), -1);
    due("wishes(0, 0, 2)", x.wishes(0, 0, 2), BEYOND);
    due("wishes(0, 0, -2)", x.wishes(0, 0, -2), BEYOND);
    due("wishes(0, 3, 0)", x.wishes(0, 3, 0), BEYOND);
    due("wishes(0, -1, 0)", x.wishes(0, -1, 0), BEYOND);
    due("wishes(1, 0, 0)", x.wishes(1, 0, 0), BEYOND);
    due("wishes(-1, 0, 0)", x.wishes(-1, 0, 0), BEYOND);
    due("childIs(0, 6)", x.childIs(0, 6), -1);
    due("childIs(0, 7)", x.childIs(0, 7), -1);
    due("childIs(0, 8)", x.childIs(0, 8), 0);
  }

  private static void promise9() {
    topic = "promise 9";
    PlayParts x = new PlayParts();
    x.part(3);
    x.child(6, 3, 1);
    x.cast(0, 0);
    due("falls(0, 1)", x.falls(0, 1), 0);
    due("falls(0, 1)", x.falls(0, 1), 1);
    due("has stays", x.childIs(0, 5), 0);
    due("may not play", x.partIs(0, 4), 0);
    due("falls(0, 0)", x.falls(0, 0), 1);
    due("falls(0, 0)", x.falls(0, 0), 0);
    due("has stays", x.childIs(0, 5), 0);
    due("may play", x.partIs(0, 4), 1);
    due("falls(0, 2)", x.falls(0, 2), BEYOND);
    due("falls(0, -1)", x.falls(0, -1), BEYOND);
    due("falls(1, 0)", x.falls(1, 0), BEYOND);
    due("falls(-1, 0)", x.falls(-1, 0), BEYOND);
    due("ill", x.childIs(0, 3), 0);
  }

  private static void promise10() {
    topic = "promise 10";
    PlayParts x = new PlayParts();
    for (int i = 0; i < 4; i++) {
      x.part(i);
    }
    x.child(6, 3, 1);
    x.wishes(0, 0, 1);
    x.wishes(0, 1, 2);
    x.wishes(0, 2, 0);
    due("worth(0, 0)", x.worth(0, 0), 10);
    due("worth(0, 1)", x.worth(0, 1), 30);
    due("worth(0, 2)", x.worth(0, 2), 20);
    due("worth(0, 3)", x.worth(0, 3), 0);
    x.wishes(0, 1, 1);
    x.wishes(0, 2, 1);
    due("worth of a wish told three times", x.worth(0, 1), 30);
    x.falls(0, 1);
    due("worth to one who may not play", x.worth(0, 1), 30);
    x.falls(0, 0);
    x.cast(0, 3);
    x.play();
    text(x, 0, "10*w+3*l+v");
    due("worth(0, 1)", x.worth(0, 1), 36);
    due("worth(0, 3)", x.worth(0, 3), 9);
    due("worth(0, 2)", x.worth(0, 2), 6);
    text(x, 0, "w*40");
    due("worth held above", x.worth(0, 1), 99);
    text(x, 0, "w-4");
    due("worth held below", x.worth(0, 1), 0);
    due("worth(0, 4)", x.worth(0, 4), BEYOND);
    due("worth(0, -1)", x.worth(0, -1), BEYOND);
    due("worth(1, 0)", x.worth(1, 0), BEYOND);
    due("worth(-1, 0)", x.worth(-1, 0), BEYOND);
  }

  private static void promise11() {
    topic = "promise 11";
    PlayParts x = new PlayParts();
    x.part(3);
    x.part(15);
    x.child(5, 3, 1);
    x.child(4, 3, 1);
    due("cast(0, 1)", x.cast(0, 1), -1);
    due("cast(0, 1) again", x.cast(0, 1), 1);
    due("cast(1, 1), who may not play", x.cast(1, 1), STATE);
    due("cast(0, 0)", x.cast(0, 0), 1);
    due("cast(1, 0), which another has", x.cast(1, 0), STATE);
    due("cast(0, -1)", x.cast(0, -1), 0);
    due("cast(0, -1)", x.cast(0, -1), -1);
    due("cast(1, 0)", x.cast(1, 0), -1);
    due("cast(1, 1), who may not play", x.cast(1, 1), STATE);
    due("childIs(1, 5)", x.childIs(1, 5), 0);
    x.falls(1, 1);
    due("cast(1, 0), which an ill one has", x.cast(1, 0), STATE);
    due("cast(1, -1)", x.cast(1, -1), 0);
    due("cast(0, 2)", x.cast(0, 2), BEYOND);
    due("cast(0, -2)", x.cast(0, -2), BEYOND);
    due("cast(2, 0)", x.cast(2, 0), BEYOND);
    due("cast(-1, 0)", x.cast(-1, 0), BEYOND);
    due("cast(2, -1)", x.cast(2, -1), BEYOND);
    due("partIs(0, 3)", x.partIs(0, 3), -1);
  }

  private static void promise12() {
    topic = "promise 12";
    PlayParts x = new PlayParts();
    due("feed(0, 0)", x.feed(0, 0), BEYOND);
    due("feed(0, 9)", x.feed(0, 9), BEYOND);
    due("feed(0, -1)", x.feed(0, -1), BEYOND);
    due("count(4)", x.count(4), 0);
    // The lowest byte comes first: "1+w*2" and three bytes above it that don't come.
    due("feed", x.feed(0x7777_77_32_2A_77_2B_31L, 5), 5);
    due("count(4)", x.count(4), 5);
    due("text(0)", x.text(0), 1);
    due("law(0, 7, 0, 0)", x.law(0, 7, 0, 0), 15);
    // Eight bytes of a word that is below 0, the eighth no sign of a text.
    due("feed", x.feed(0xF731_2B31_2B31_2B31L, 8), 8);
    due("text(0)", x.text(0), -17);
    // 60 bytes: 1+1+ .. and a number of two digits.
    for (int i = 0; i < 7; i++) {
      due("feed " + i, x.feed(0x2B31_2B31_2B31_2B31L, 8), 8 * (i + 1));
    }
    due("feed to 61", x.feed(0x2B31_2B31_2B31_2B31L, 5), FULL);
    due("feed n 9 of 56", x.feed(0, 9), BEYOND);
    due("feed to 60", x.feed(0x3131_2B31L, 4), 60);
    due("feed to 61", x.feed(0x31, 1), FULL);
    due("count(4)", x.count(4), 60);
    due("text(0)", x.text(0), 1);
    due("law", x.law(0, 0, 0, 0), 40);
    due("count(4)", x.count(4), 0);
  }

  private static int law(PlayParts x, String signs, int a, int b, int c) {
    due("text(1) " + signs, text(x, 1, signs), 1);
    return x.law(1, a, b, c);
  }

  private static void promise13() {
    topic = "promise 13";
    PlayParts x = new PlayParts();
    due("1+2*3", law(x, "1+2*3", 0, 0, 0), 7);
    due("(1+2)*3", law(x, "(1+2)*3", 0, 0, 0), 9);
    due("20-5-3", law(x, "20-5-3", 0, 0, 0), 12);
    due("40/4/2", law(x, "40/4/2", 0, 0, 0), 5);
    due("40/(4/2)", law(x, "40/(4/2)", 0, 0, 0), 20);
    due("7%4*2", law(x, "7%4*2", 0, 0, 0), 6);
    due("w/2 of -7", law(x, "w/2", -7, 0, 0), -3);
    due("w%3 of -7", law(x, "w%3", -7, 0, 0), -1);
    due("w/s by 0", law(x, "w/s", 7, 0, 0), 0);
    due("w%s by 0", law(x, "w%s", 7, 0, 0), 0);
    due("w/s+y", law(x, "w/s+y", 7, 0, 5), 5);
    due("least by -1", law(x, "w/s", MIN, -1, 0), -99);
    due("least % -1", law(x, "w%s+1", MIN, -1, 0), 1);
    due("wraps", law(x, "w+1", MAX, 0, 0), -99);
    due("wraps by *", law(x, "w*w", 65536, 0, 0), 0);
    due("1|0&0", law(x, "1|0&0", 0, 0, 0), 1);
    due("(1|0)&0", law(x, "(1|0)&0", 0, 0, 0), 0);
    due("5&7", law(x, "5&7", 0, 0, 0), 1);
    due("5&0", law(x, "5&0", 0, 0, 0), 0);
    due("0|8", law(x, "0|8", 0, 0, 0), 1);
    due("0|0", law(x, "0|0", 0, 0, 0), 0);
    due("w<s", law(x, "w<s", 2, 3, 0), 1);
    due("w<s", law(x, "w<s", 3, 3, 0), 0);
    due("w=s", law(x, "w=s", 3, 3, 0), 1);
    due("w=s", law(x, "w=s", 4, 3, 0), 0);
    due("w>s", law(x, "w>s", 4, 3, 0), 1);
    due("w>s", law(x, "w>s", 3, 3, 0), 0);
    due("1+1<3-0", law(x, "1+1<3-0", 0, 0, 0), 1);
    due("w<s&s<y", law(x, "w<s&s<y", 1, 2, 3), 1);
    due("w<s&s<y", law(x, "w<s&s<y", 1, 2, 2), 0);
    due("(1<2)<2", law(x, "(1<2)<2", 0, 0, 0), 1);
    due("!w", law(x, "!w", 0, 0, 0), 1);
    due("!w", law(x, "!w", 5, 0, 0), 0);
    due("!w*9", law(x, "!w*9", 0, 0, 0), 9);
    due("!!w", law(x, "!!w", 5, 0, 0), 1);
    due("!(w|s)+1", law(x, "!(w|s)+1", 0, 0, 0), 2);
    due("0099-0001", law(x, "0099-0001", 0, 0, 0), 98);
    due("9999-9980", law(x, "9999-9980", 0, 0, 0), 19);
    due("names", law(x, "w-s*2+y*20", 1, 2, 3), 57);
    due("five open", law(x, "((((((1+w)))))".substring(1), 1, 0, 0), 2);
    due("five of ! and (", law(x, "!(!(!w))", 1, 0, 0), 0);
    due("five, and five again", law(x, "!!!!!w+!!!!!w", 0, 0, 0), 2);
    due("one closed, one opened", law(x, "((((w)+(s))))+(y)", 1, 2, 4), 7);
    due("text(0) 10-w+l*20+v", text(x, 0, "10-w+l*20+v"), 1);
    due("law(0, 1, 2, 3)", x.law(0, 1, 2, 3), 52);
  }

  private static void promise13Faults() {
    topic = "promise 13, faults";
    PlayParts x = new PlayParts();
    due("text(0) w*7", text(x, 0, "w*7"), 1);
    String[] faulty = {
      "", "w+", "+", "w+s", "s", "y", "w l", " w", "w ", "12345", "1234+56789", "w<l<v", "w=l>v", "w<l=v",
      "(w", "(w+", "w)", "()", "(w))", "!", "w!", "ww", "1w", "w1", "((((((w))))))", "!!!!!!w", "!(!(!(w)))",
      "(((((!w", "((((((", "w&&l", "w||l", "w<<l", "-w", "w*-1", "(w<l)<(l<v)<w", "(w<l<v)", "w\u00e9", "W", "w+l+",
      "1+(2*(3-", "w/", "w%%l", "w.l", "!)", "(((((w)))))("
    };
    int[] faults = {
      0, 2, 0, 2, 0, 0, 1, 0, 1, 4, 9, 3, 3, 3,
      2, 3, 1, 1, 3, 1, 1, 1, 1, 1, 5, 5, 5,
      5, 5, 2, 2, 2, 0, 2, 11, 4, 1, 0, 4,
      8, 2, 2, 1, 1, 11
    };
    for (int i = 0; i < faulty.length; i++) {
      due("text(0) " + faulty[i], text(x, 0, faulty[i]), -10 - faults[i]);
      due("count(4)", x.count(4), 0);
      due("the one ahead stays", x.law(0, 3, 0, 0), 21);
    }
    due("text(1) w+s+y", text(x, 1, "w+s+y"), 1);
    due("text(1) w+l", text(x, 1, "w+l"), -12);
    due("text(1) w+v", text(x, 1, "w+v"), -12);
    feed(x, "1+1");
    due("text(2)", x.text(2), BEYOND);
    due("text(-1)", x.text(-1), BEYOND);
    due("the tape stays", x.count(4), 3);
    due("text(0)", x.text(0), 1);
    due("in place of the one ahead", x.law(0, 3, 0, 0), 2);
    due("the other use's stays", x.law(1, 3, 4, 5), 12);
    due("no FAULT is told as an ERROR", x.told(2) + x.told(3) + x.told(4) + x.told(5) + x.told(6), 0);
    due("two BEYOND", x.told(1), 2);
  }

  private static void promise14() {
    topic = "promise 14";
    PlayParts x = new PlayParts();
    text(x, 0, "7");
    text(x, 1, "8");
    due("untell(2)", x.untell(2), BEYOND);
    due("untell(-1)", x.untell(-1), BEYOND);
    due("untell(1)", x.untell(1), 1);
    due("untell(1)", x.untell(1), 0);
    due("law(1, 5, 0, 0)", x.law(1, 5, 0, 0), 5);
    due("law(0, 5, 0, 0)", x.law(0, 5, 0, 0), 7);
    due("untell(0)", x.untell(0), 1);
    due("untell(0)", x.untell(0), 0);
    due("law(0, 5, 0, 0)", x.law(0, 5, 0, 0), 50);
  }

  private static void promise15() {
    topic = "promise 15";
    PlayParts x = new PlayParts();
    due("law(0, 9, 8, 7)", x.law(0, 9, 8, 7), 90);
    due("law(0, 10, 0, 0)", x.law(0, 10, 0, 0), 99);
    due("law(0, -1, 0, 0)", x.law(0, -1, 0, 0), 0);
    due("10 times that wraps to 4", x.law(0, 429496730, 0, 0), 4);
    due("10 times MIN wraps to 0", x.law(0, MIN, 5, 5), 0);
    due("law(1, 98, 1, 1)", x.law(1, 98, 1, 1), 98);
    due("law(1, 100, 0, 0)", x.law(1, 100, 0, 0), 99);
    due("law(1, -100, 0, 0)", x.law(1, -100, 0, 0), -99);
    due("law(1, MIN, 0, 0)", x.law(1, MIN, 0, 0), -99);
    due("law(-1, 0, 0, 0)", x.law(-1, 0, 0, 0), BEYOND);
    due("law(2, 0, 0, 0)", x.law(2, 0, 0, 0), BEYOND);
    text(x, 0, "w+l-v");
    due("law(0, 40, 5, 3)", x.law(0, 40, 5, 3), 42);
    due("law(0, 40, 5, 50)", x.law(0, 40, 5, 50), 0);
    due("law(0, 40, 90, 3)", x.law(0, 40, 90, 3), 99);
    text(x, 1, "w+s*y");
    due("law(1, 4, 5, 6)", x.law(1, 4, 5, 6), 34);
    due("law(1, 4, 5, -60)", x.law(1, 4, 5, -60), -99);
    due("law(1, 4, 50, 60)", x.law(1, 4, 50, 60), 99);
  }

  private static void promise16() {
    topic = "promise 16";
    PlayParts x = new PlayParts();
    due("play() of nobody", x.play(), 0);
    due("count(2)", x.count(2), 1);
    x.part(3);
    x.part(4);
    x.child(5, 5, 0);
    x.child(5, 5, 1);
    x.wishes(0, 0, 0);
    x.wishes(1, 1, 1);
    x.cast(0, 0);
    x.cast(1, 1);
    due("play()", x.play(), 50);
    due("count(2)", x.count(2), 2);
    due("count(3)", x.count(3), 50);
    due("childIs(0, 4)", x.childIs(0, 4), 0);
    due("childIs(1, 4)", x.childIs(1, 4), 1);
    due("childIs(0, 5)", x.childIs(0, 5), -1);
    due("childIs(1, 5)", x.childIs(1, 5), -1);
    x.cast(1, 0);
    due("play() with one", x.play(), 0);
    due("last of one who had none stays", x.childIs(0, 4), 0);
    due("last of one who had another", x.childIs(1, 4), 0);
    due("count(3)", x.count(3), 50);
    // The year and what one had last are those ahead of the play.
    text(x, 0, "10*l+w");
    text(x, 1, "w+y*20");
    x.cast(0, 0);
    x.cast(1, 1);
    due("play() by texts in year 3", x.play(), 13 + 60 + 2 + 60);
    due("count(3)", x.count(3), 185);
    due("who is ill plays what one has", x.cast(0, 0), -1);
    x.falls(0, 1);
    due("play() in year 4", x.play(), 13 + 80 + 80);
    due("count(3)", x.count(3), 358);
    text(x, 1, "y");
    x.loose(1);
    due("the rest of year 6 by 7, twice", x.play(), 12);
    due("the rest of year 7 by 7", x.play(), 0);
    due("the rest of year 8 by 7, twice", x.play(), 2);
  }

  private static void promise16Joy() {
    topic = "promise 16, joy held";
    PlayParts x = new PlayParts();
    for (int i = 0; i < 7; i++) {
      x.child(5, 5, 0);
    }
    text(x, 1, "99");
    for (int i = 0; i < 144; i++) {
      x.play();
    }
    due("count(3)", x.count(3), 144 * 693);
    due("play()", x.play(), 693);
    due("count(3) held", x.count(3), 99999);
    due("play()", x.play(), 693);
    due("count(3) held", x.count(3), 99999);
    text(x, 1, "0-99");
    due("play()", x.play(), -693);
    due("count(3)", x.count(3), 99306);
    for (int i = 0; i < 14; i++) {
      x.loose(20);
    }
    due("loose(7)", x.loose(7), 99306 - 287 * 693);
    due("loose(1)", x.loose(1), -99999);
    due("count(3) held below", x.count(3), -99999);
  }

  private static void promise17() {
    topic = "promise 17";
    PlayParts x = new PlayParts();
    due("lots() of nobody", x.lots(), 0);
    due("no draw", x.count(7), 1);
    x.child(5, 5, 0);
    due("lots() of no part", x.lots(), 0);
    due("no draw", x.count(7), 1);
    x.part(0);
    x.part(0);
    x.part(0);
    x.child(5, 5, 0);
    x.child(5, 5, 0);
    x.child(5, 5, 0);
    // z 1103527590 gives 4310654, rest 2 by 3; then 2524885223 (an int) gives 9862832, rest 0 by 2.
    due("lots()", x.lots(), 7);
    due("childIs(0, 5)", x.childIs(0, 5), 2);
    due("childIs(1, 5)", x.childIs(1, 5), 0);
    due("childIs(2, 5)", x.childIs(2, 5), 1);
    due("childIs(3, 5)", x.childIs(3, 5), -1);
    int z = 1;
    for (int i = 0; i < 3; i++) {
      z = z * 1103515245 + 12345;
    }
    due("three draws", x.count(7), z);
    x.falls(0, 1);
    x.falls(2, 1);
    due("lots() with two ill", x.lots(), 10);
    due("who is ill has none", x.childIs(0, 5), -1);
    x.become(0, 19);
    x.become(1, 19);
    x.become(2, 19);
    due("lots() of what none may play", x.lots(), 0);
    due("nobody has one", x.childIs(1, 5), -1);
    x.become(1, 69);
    x.seed(9);
    due("lots() of one part", x.lots(), 2);
    due("childIs(1, 5)", x.childIs(1, 5), 1);
    due("a draw of one, too", x.count(7), 9 * 1103515245 + 12345);
  }

  private static void promise18() {
    topic = "promise 18";
    PlayParts x = new PlayParts();
    due("loose(0)", x.loose(0), BEYOND);
    due("loose(21)", x.loose(21), BEYOND);
    due("loose(-1)", x.loose(-1), BEYOND);
    due("count(2)", x.count(2), 0);
    x.part(0);
    x.part(0);
    x.child(5, 5, 0);
    x.child(5, 5, 0);
    x.wishes(0, 0, 0);
    x.wishes(0, 1, 1);
    // 30, if number 0 comes to the first one, else 20.
    int z = 1;
    int joy = 0;
    int last = 0;
    for (int i = 0; i < 5; i++) {
      z = z * 1103515245 + 12345;
      last = (z >>> 8) % 2;
      joy += last == 0 ? 30 : 20;
      z = z * 1103515245 + 12345;
    }
    due("loose(5)", x.loose(5), joy);
    due("count(3)", x.count(3), joy);
    due("count(2)", x.count(2), 5);
    due("count(7)", x.count(7), z);
    due("nobody has one", x.childIs(0, 5), -1);
    due("childIs(0, 4)", x.childIs(0, 4), last);
    due("childIs(1, 4)", x.childIs(1, 4), 1 - last);
    due("loose(1) is all JOY, not this year's", x.loose(1) > joy ? 1 : 0, 1);
  }

  private static void promise18LastYear() {
    topic = "promises 16 and 18, the last year";
    PlayParts x = new PlayParts();
    x.part(3);
    x.child(5, 5, 0);
    for (int i = 0; i < 499; i++) {
      x.loose(20);
    }
    due("count(2)", x.count(2), 9980);
    int z = x.count(7);
    due("loose(20) from 9980", x.loose(20), STATE);
    due("nothing drawn", x.count(7), z);
    due("loose(21)", x.loose(21), BEYOND);
    due("loose(19)", x.loose(19), 0);
    x.cast(0, 0);
    due("play() in 9999", x.play(), STATE);
    due("loose(1) in 9999", x.loose(1), STATE);
    due("nothing has changed", x.childIs(0, 5), 0);
    due("count(2)", x.count(2), 9999);
  }

  private static void promise19() {
    topic = "promise 19";
    PlayParts x = new PlayParts();
    due("seed(-5)", x.seed(-5), 1);
    due("seed(MIN)", x.seed(MIN), -5);
    due("seed(0)", x.seed(0), MIN);
    due("count(7)", x.count(7), 0);
    x.part(0);
    x.child(1, 1, 1);
    x.lots();
    due("seed(0)", x.seed(0), 12345);
  }

  private static void promise20() {
    topic = "promise 20";
    PlayParts x = new PlayParts();
    due("best(-2)", x.best(-2), BEYOND);
    due("best(7)", x.best(7), BEYOND);
    due("best(-1)", x.best(-1), 0);
    due("best(0)", x.best(0), NONE);
    due("best(6)", x.best(6), NONE);
    x.part(0);
    x.part(0);
    x.part(19);
    x.child(5, 5, 0);
    x.child(5, 5, 0);
    x.child(5, 5, 0);
    due("best(3)", x.best(3), NONE);
    due("worth nothing: best(-1)", x.best(-1), 0);
    due("the least part, though worth nothing", x.best(0), 0);
    due("best(1)", x.best(1), 1);
    due("best(2), for whom there is none", x.best(2), -1);
    // To each 1 is dearest; to the third one by most over what else there is.
    for (int i = 0; i < 3; i++) {
      x.wishes(i, 0, 1);
    }
    x.wishes(0, 1, 0);
    x.wishes(1, 2, 0);
    due("best(-1)", x.best(-1), 50);
    due("best(0)", x.best(0), 0);
    due("best(1)", x.best(1), 1);
    due("best(2)", x.best(2), -1);
    x.falls(1, 1);
    due("best(-1)", x.best(-1), 50);
    due("best(1), who is ill", x.best(1), -1);
    due("best(2)", x.best(2), 1);
    // What they have now does not matter, and does not change.
    x.cast(2, 0);
    due("best(0)", x.best(0), 0);
    due("childIs(2, 5)", x.childIs(2, 5), 0);
    due("childIs(0, 5)", x.childIs(0, 5), -1);
    x.become(2, 13);
    due("best(2)", x.best(2), 1);
    x.falls(1, 0);
    due("best(-1) with a third one", x.best(-1), 50);
    due("best(2), who takes what is left", x.best(2), 2);
    text(x, 0, "5-w");
    // To the first one 3, 2, 5; to the second one 4, 2, 5; to the third one 5, 2, 5.
    due("best(-1) by a text", x.best(-1), 2 + 5 + 5);
    due("best(0), not 2 (5 + 2 + 5)", x.best(0), 1);
    due("best(1)", x.best(1), 2);
    due("best(2)", x.best(2), 0);
  }

  private static void promise20Restored() {
    topic = "promise 20, of what is restored";
    PlayParts x = new PlayParts();
    x.part(0);
    x.child(5, 5, 0);
    x.child(5, 5, 0);
    x.image();
    x.part(0);
    x.child(5, 5, 0);
    x.wishes(0, 0, 0);
    x.wishes(1, 0, 1);
    x.wishes(2, 0, 1);
    due("best(-1)", x.best(-1), 60);
    due("best(2)", x.best(2), -1);
    due("without(0)", x.without(0), 30);
    x.restore();
    due("best(-1)", x.best(-1), 0);
    due("best(0)", x.best(0), 0);
    due("best(1)", x.best(1), -1);
    due("best(2)", x.best(2), NONE);
    due("wished()", x.wished(), 0);
  }

  private static void promise21() {
    topic = "promise 21";
    PlayParts x = new PlayParts();
    due("wished()", x.wished(), 0);
    x.part(0);
    x.part(0);
    x.part(18);
    x.child(5, 5, 0);
    x.child(5, 5, 0);
    x.child(5, 5, 0);
    due("wished() without wishes", x.wished(), 0);
    x.wishes(0, 0, 0);
    x.wishes(1, 2, 0);
    due("wished(), both the same", x.wished(), 1);
    x.wishes(0, 2, 1);
    due("wished()", x.wished(), 2);
    x.wishes(2, 1, 2);
    due("wished(), one may not play it", x.wished(), 2);
    x.become(2, 15);
    due("wished()", x.wished(), 3);
    x.falls(0, 1);
    due("wished() with one ill", x.wished(), 2);
    text(x, 0, "0");
    due("wished(), though worth nothing", x.wished(), 2);
  }

  private static void promise22() {
    topic = "promise 22";
    PlayParts x = new PlayParts();
    due("without(0)", x.without(0), BEYOND);
    x.part(0);
    x.part(0);
    x.child(5, 5, 0);
    x.child(5, 5, 0);
    x.child(5, 5, 0);
    x.wishes(0, 0, 0);
    x.wishes(0, 1, 1);
    x.wishes(1, 0, 0);
    x.wishes(2, 1, 0);
    due("best(-1): 20 and 30", x.best(-1), 50);
    due("without(0): then 30", x.without(0), 20);
    due("without(1): then 20 and 20", x.without(1), 10);
    due("without(2)", x.without(2), 0);
    due("without(3)", x.without(3), BEYOND);
    due("without(-1)", x.without(-1), BEYOND);
    x.falls(1, 1);
    due("without(1), who is ill", x.without(1), 0);
    due("without(0): 20 and 20, then 20", x.without(0), 20);
  }

  private static void promise23() {
    topic = "promise 23";
    PlayParts x = new PlayParts();
    x.child(5, 5, 0);
    due("lies(0, 0) of no part", x.lies(0, 0), -1);
    due("lies(0, 1) of no part", x.lies(0, 1), 0);
    x.part(0);
    x.part(0);
    x.part(0);
    x.child(5, 5, 0);
    // To the one 0 is dearer than 1, to the other the same: the one ahead takes 0 by number.
    x.wishes(0, 0, 0);
    x.wishes(0, 1, 1);
    x.wishes(1, 0, 0);
    x.wishes(1, 1, 1);
    due("best(1)", x.best(1), 1);
    due("lies(0, 0)", x.lies(0, 0), -1);
    due("lies(0, 1)", x.lies(0, 1), 0);
    // First 0, second 0 (or 2): 0 is the other's only by 10 less.
    due("lies(1, 0)", x.lies(1, 0), 0);
    due("lies(1, 1)", x.lies(1, 1), 10);
    x.wishes(0, 1, 2);
    due("best(0)", x.best(0), 0);
    due("best(1)", x.best(1), 1);
    x.wishes(0, 1, -1);
    due("who has no other wish keeps 0", x.lies(1, 0), -1);
    x.wishes(0, 1, 1);
    due("nothing has changed", x.childIs(1, 6), 0);
    due("nothing has changed", x.childIs(1, 7), 1);
    x.falls(1, 1);
    due("who is ill has none by any lie", x.lies(1, 0), -1);
    due("lies(1, 1)", x.lies(1, 1), 0);
    due("lies(2, 0)", x.lies(2, 0), BEYOND);
    due("lies(-1, 0)", x.lies(-1, 0), BEYOND);
    due("lies(0, 2)", x.lies(0, 2), BEYOND);
    due("lies(0, -1)", x.lies(0, -1), BEYOND);
  }

  private static void promise23ByText() {
    topic = "promise 23, by a text";
    PlayParts x = new PlayParts();
    x.part(0);
    x.part(0);
    x.child(5, 5, 0);
    x.child(5, 5, 0);
    // What one had last is worth 4 more, by each lie too: the second one had 0 last, the first one 1.
    text(x, 0, "w*3+4*l");
    x.cast(0, 1);
    x.cast(1, 0);
    x.play();
    x.wishes(0, 0, 0);
    x.wishes(1, 0, 1);
    // 0: 9 and 4; 1: 4 and 9.
    due("best(-1)", x.best(-1), 18);
    due("best(0)", x.best(0), 0);
    due("lies(0, 0)", x.lies(0, 0), -1);
    x.wishes(1, 0, 0);
    x.wishes(1, 1, 1);
    // 0: 9 and 13; 1: 4 and 6.
    due("best(-1)", x.best(-1), 17);
    due("best(0), to whom 0 is dearer", x.best(0), 1);
    due("best(1)", x.best(1), 0);
    // By 0 first, 0 second: 9 and 4; 13 and 6: the same sum by less.
    due("lies(0, 0)", x.lies(0, 0), -1);
    x.wishes(1, 1, -1);
    // 13 and 0: what one had last outweighs it by any lie.
    due("lies(0, 1)", x.lies(0, 1), 0);
    x.wishes(0, 0, -1);
    x.wishes(0, 2, 0);
    x.wishes(1, 0, 1);
    // 0: 3 and 4; 1: 4 and 9: the best is 13 by 0 and 1; by that one has 0.
    due("best(-1)", x.best(-1), 12);
    due("best(0)", x.best(0), 0);
    // 1 is worth 4 truly; by 1 first, 13, one has it, and the other has 4.
    due("lies(0, 0)", x.lies(0, 0), 10);
    due("lies(0, 1)", x.lies(0, 1), 1);
    // The other one: by 0 first, 13, but 9 more is what 1 is worth to that one truly.
    due("lies(1, 0)", x.lies(1, 0), -1);
    text(x, 0, "w=2");
    x.wishes(0, 0, 1);
    x.wishes(0, 1, 0);
    x.wishes(0, 2, -1);
    x.wishes(1, 0, -1);
    x.wishes(1, 1, 0);
    // Only a second wish is worth 1: both want 0, the first one has it by number.
    due("best(0)", x.best(0), 0);
    due("best(1)", x.best(1), 1);
    due("lies(1, 0), none of which is worth more", x.lies(1, 0), -1);
  }

  private static void promise24() {
    topic = "promise 24";
    PlayParts x = new PlayParts();
    x.child(5, 5, 0);
    due("odds(0, 0) of no part", x.odds(0, 0), STATE);
    due("odds(0, 1) of no part", x.odds(0, 1), STATE);
    due("odds(0, 2)", x.odds(0, 2), BEYOND);
    for (int i = 0; i < 6; i++) {
      x.part(i);
    }
    due("no wish: 0 by 1", x.odds(0, 0), 0);
    due("no wish: 0 by 1", x.odds(0, 1), 1);
    x.wishes(0, 1, 5);
    due("1 by 6", x.odds(0, 0), 1);
    due("1 by 6", x.odds(0, 1), 6);
    x.wishes(0, 0, 5);
    due("the same wish twice: 1 by 6", x.odds(0, 1), 6);
    x.wishes(0, 2, 0);
    due("2 by 6", x.odds(0, 0), 1);
    due("2 by 6", x.odds(0, 1), 3);
    x.become(0, 19);
    due("one that one may not play: 1 by 5", x.odds(0, 0), 1);
    due("1 by 5", x.odds(0, 1), 5);
    x.become(1, 19);
    x.wishes(0, 1, 2);
    due("2 by 4", x.odds(0, 1), 2);
    x.wishes(0, 2, 3);
    due("3 by 4", x.odds(0, 0), 3);
    due("3 by 4", x.odds(0, 1), 4);
    x.become(4, 19);
    due("3 by 3", x.odds(0, 0), 1);
    due("3 by 3", x.odds(0, 1), 1);
    x.child(0, 1, 1);
    x.cast(1, 5);
    due("what others have does not matter", x.odds(0, 1), 1);
    due("odds(2, 0)", x.odds(2, 0), BEYOND);
    due("odds(-1, 0)", x.odds(-1, 0), BEYOND);
    due("odds(0, -1)", x.odds(0, -1), BEYOND);
    x.falls(0, 1);
    due("who is ill", x.odds(0, 0), STATE);
    due("BEYOND ahead of STATE", x.odds(0, 2), BEYOND);
  }

  private static void promise25() {
    topic = "promise 25";
    PlayParts x = new PlayParts();
    due("fits(0, 0)", x.fits(0, 0), NONE);
    due("fits(0, 2)", x.fits(0, 2), BEYOND);
    due("fits(0, -1)", x.fits(0, -1), BEYOND);
    due("fits(4, 0)", x.fits(4, 0), BEYOND);
    due("fits(-1, 0)", x.fits(-1, 0), BEYOND);
    x.part(0);
    x.part(0);
    x.part(0);
    x.child(5, 5, 0);
    x.child(5, 5, 0);
    int many = 0;
    int least = -1;
    int manyOfFirst = 0;
    for (int z = 0; z < 256; z++) {
      int first = z * 1103515245 + 12345;
      int second = first * 1103515245 + 12345;
      if ((first >>> 8) % 3 == 1) {
        manyOfFirst++;
        if ((second >>> 8) % 2 == 1) {
          many++;
          least = least < 0 ? z : least;
        }
      }
    }
    row(x, 0, 8, 1, 2);
    x.seed(77);
    x.cast(0, 2);
    due("fits(0, 0)", x.fits(0, 0), many);
    due("fits(0, 1)", x.fits(0, 1), least);
    due("only thought", x.count(7), 77);
    due("only thought", x.childIs(0, 5), 2);
    row(x, 1, 32, 1);
    due("fits of the first one", x.fits(1, 0), manyOfFirst);
    row(x, 1, 16);
    due("fits of nobody", x.fits(1, 0), 256);
    due("fits of nobody", x.fits(1, 1), 0);
    row(x, 2, 16, 1, 1);
    due("fits never", x.fits(2, 0), 0);
    due("fits never", x.fits(2, 1), NONE);
    row(x, 2, 16, -1);
    due("one always has one", x.fits(2, 0), 0);
    x.falls(0, 1);
    due("who is ill has none", x.fits(2, 0), 256);
    due("fits(3, 1), missing", x.fits(3, 1), NONE);
  }

  private static void voice(PlayParts x, int part, int voice, int v, int want, int... bodies) {
    String call = "voice(" + part + ", " + voice + ", " + v + ")";
    due(call, x.voice(part, voice, v), want);
    due("count(6) after " + call, x.count(6), bodies.length);
    for (int i = 0; i < bodies.length; i++) {
      due("body(" + i + ") after " + call, x.body(i), bodies[i]);
    }
    due("body behind after " + call, x.body(bodies.length), NONE);
  }

  private static void promise26() {
    topic = "promises 26 and 27";
    PlayParts x = ofAllKinds(5, 6, 7, 8, 9, 3, 4);
    voice(x, 0, 0, 7, 7, 10);
    voice(x, 0, 1, 7, 14, 11, 10);
    voice(x, 0, 2, 7, 9, 12, 11, 10);
    voice(x, 0, 3, -7, -1, 13);
    voice(x, 1, 0, 7, 4, 20, 10);
    voice(x, 1, 1, 7, 8, 11, 20, 10);
    voice(x, 1, 2, 7, 2, 12, 11, 20, 10);
    voice(x, 1, 3, 17, 3 - 4, 21, 13, 11, 20, 10);
    voice(x, 2, 0, 7, 9, 10);
    voice(x, 2, 1, 7, -18, 30, 11, 10);
    voice(x, 2, 2, 7, -25, 12, 30, 11, 10);
    voice(x, 2, 3, 17, 3, 13);
    voice(x, 3, 0, 7, 10, 10);
    voice(x, 3, 1, 7, 20, 11, 10);
    voice(x, 3, 2, -7, -8, 40, 12, 11, 10);
    voice(x, 3, 3, 17, 3, 13);
    voice(x, 4, 0, 7, 21, 50, 20, 10);
    voice(x, 4, 1, 7, 42, 11, 50, 20, 10);
    voice(x, 4, 2, 7, 33 ^ 4, 51, 12, 11, 50, 20, 10);
    voice(x, 4, 3, 17, 3 + 6, 21, 13, 11, 50, 20, 10);
    voice(x, 5, 0, 7, 12, 10);
    voice(x, 5, 1, 7, -26, 60, 30, 11, 10);
    voice(x, 5, 2, 7, -29, 12, 60, 30, 11, 10);
    voice(x, 5, 3, 17, -8, 13);
    voice(x, 6, 0, 7, 9, 70);
    voice(x, 6, 1, 7, 22, 71, 11, 70);
    voice(x, 6, 2, 7, 18, 12, 71, 11, 70);
    voice(x, 6, 3, 17, -8, 13);
    x.become(0, 13);
    voice(x, 0, 0, 7, 3, 20, 10);
  }

  private static void promise26Wraps() {
    topic = "promise 26, edges";
    PlayParts x = ofAllKinds(0, 0, 2, 3, 4, 4, 6);
    due("a part by 0", x.voice(0, 3, 5), PARTED);
    due("a speaker by -1", x.voice(1, 3, 5), -5 - 4);
    due("a crown by 0", x.voice(2, 3, 5), PARTED);
    due("a beast by 0", x.voice(3, 3, 0), PARTED);
    due("a singer by 0", x.voice(4, 3, 5), PARTED);
    due("a camel by -1", x.voice(5, 3, MIN), MIN);
    due("a star by 0", x.voice(6, 3, MAX), PARTED);
    due("told(6)", x.told(6), 5);
    due("says wraps", x.voice(3, 0, MAX), MIN + 2);
    due("sings wraps", x.voice(0, 1, MIN), 0);
    due("an answer like BEYOND is no ERROR", x.voice(0, 0, BEYOND), BEYOND);
    due("an answer like PARTED is no ERROR", x.voice(0, 0, PARTED), PARTED);
    due("told(1)", x.told(1), 0);
    due("told(6)", x.told(6), 5);
    due("voice(7, 0, 0)", x.voice(7, 0, 0), BEYOND);
    due("voice(-1, 0, 0)", x.voice(-1, 0, 0), BEYOND);
    due("voice(0, 4, 0)", x.voice(0, 4, 0), BEYOND);
    due("voice(0, -1, 0)", x.voice(0, -1, 0), BEYOND);
    due("told(1)", x.told(1), 4);
  }

  private static void promise27() {
    topic = "promise 27";
    PlayParts x = new PlayParts();
    x.part(5);
    x.part(15);
    due("body(0)", x.body(0), NONE);
    x.voice(1, 2, 7);
    due("body(0)", x.body(0), 12);
    due("body(3)", x.body(3), 10);
    due("body(4)", x.body(4), NONE);
    due("body(-1)", x.body(-1), NONE);
    due("body(MAX)", x.body(MAX), NONE);
    due("body(MIN)", x.body(MIN), NONE);
    x.voice(2, 0, 0);
    due("a BEYOND leaves THE TRACE", x.body(1), 11);
    x.voice(0, 0, 7);
    due("the latest voice() alone", x.body(0), 10);
    due("body(1)", x.body(1), NONE);
  }

  private static void promise28() {
    topic = "promise 28";
    PlayParts x = new PlayParts();
    due("sheet(-1, 8, 1)", x.sheet(-1, 8, 1), BEYOND);
    due("sheet(4, 8, 1)", x.sheet(4, 8, 1), BEYOND);
    due("sheet(4, 8, -1)", x.sheet(4, 8, -1), BEYOND);
    due("sheet(0, 7, 1)", x.sheet(0, 7, 1), BEYOND);
    due("sheet(0, 64, 1)", x.sheet(0, 64, 1), BEYOND);
    due("sheet(0, -8, 1)", x.sheet(0, -8, 1), BEYOND);
    due("sheet(0, 8, -1)", x.sheet(0, 8, -1), STATE);
    due("sheet(0, 8, MIN)", x.sheet(0, 8, MIN), STATE);
    due("sheet(0, 8, 25)", x.sheet(0, 8, 25), BEYOND);
    due("sheet(0, 8, MAX)", x.sheet(0, 8, MAX), BEYOND);
    due("still missing", x.put(0, 0, 0), NONE);
    due("sheet(0, 8, 24)", x.sheet(0, 8, 24), 1);
    due("put(0, 23, 0)", x.put(0, 23, 0), 1);
    due("put(0, 24, 0)", x.put(0, 24, 0), BEYOND);
    due("sheet(1, 16, 0)", x.sheet(1, 16, 0), 1);
    due("put(1, 0, 0)", x.put(1, 0, 0), BEYOND);
    due("sheet(2, 32, 1)", x.sheet(2, 32, 1), 1);
    due("sheet(0, 0, -7)", x.sheet(0, 0, -7), 1);
    due("missing then", x.put(0, 0, 0), NONE);
    due("sheet(1, 0, 99)", x.sheet(1, 0, 99), 1);
    due("missing then", x.put(1, 0, 0), NONE);
    x.part(0);
    x.part(0);
    x.child(1, 1, 0);
    x.child(1, 1, 0);
    x.put(2, 0, 1);
    due("judge(2)", x.judge(2), 0);
    due("casts(2)", x.casts(2), 1);
    due("childIs(0, 5)", x.childIs(0, 5), 1);
    due("sheet(2, 32, 1) again", x.sheet(2, 32, 1), 1);
    due("all 0 again", x.casts(2), 1);
    due("childIs(0, 5)", x.childIs(0, 5), 0);
    x.put(2, 0, 1);
    due("a refused one", x.sheet(2, 32, 25), BEYOND);
    due("changes nothing", x.casts(2), 1);
    due("childIs(0, 5)", x.childIs(0, 5), 1);
  }

  private static void promise29() {
    topic = "promise 29";
    PlayParts x = new PlayParts();
    for (int i = 0; i < 7; i++) {
      x.part(0);
    }
    x.child(1, 1, 0);
    due("put(-1, 0, 0)", x.put(-1, 0, 0), BEYOND);
    due("put(4, 0, 0)", x.put(4, 0, 0), BEYOND);
    due("put(0, 99, 0), missing", x.put(0, 99, 0), NONE);
    x.sheet(0, 8, 2);
    x.sheet(1, 16, 2);
    x.sheet(2, 32, 2);
    due("put(0, -1, 0)", x.put(0, -1, 0), BEYOND);
    due("put(0, 2, 0)", x.put(0, 2, 0), BEYOND);
    due("put(0, MIN, 0)", x.put(0, MIN, 0), BEYOND);
    int[] numbers = {0x103, 0x10003, 0x50000, 255, 65535, -1, -253, 3};
    int[] by8 = {3, 3, 0, -1, -1, -1, 3, 3};
    int[] by16 = {-2, 3, 0, -2, -1, -1, -2, 3};
    int[] by32 = {-2, -2, -2, -2, -2, -1, -2, 3};
    for (int i = 0; i < numbers.length; i++) {
      for (int sheet = 0; sheet < 3; sheet++) {
        due("put of " + numbers[i], x.put(sheet, 0, numbers[i]), 1);
        int is = sheet == 0 ? by8[i] : sheet == 1 ? by16[i] : by32[i];
        due("casts of " + numbers[i] + " on " + sheet, x.casts(sheet), is == -2 ? 0 : 1);
        due("has of " + numbers[i] + " on " + sheet, x.childIs(0, 5), is == -2 ? -1 : is);
      }
    }
  }

  private static void promise30() {
    topic = "promise 30";
    PlayParts x = new PlayParts();
    for (int i = 0; i < 7; i++) {
      x.part(0);
      x.child(1, 1, 0);
    }
    row(x, 0, 8, 0, 1, 2, 3, 4, 5);
    due("move upward in itself", x.move(0, 0, 0, 1, 4), 4);
    due("0, 0, 1, 2, 3, 5: casts up to the second 0", x.casts(0), 1);
    row(x, 0, 8, 6, 1, 2, 3, 4, 5, 0);
    due("move in itself", x.move(0, 1, 0, 0, 6), 6);
    due("put", x.put(0, 6, 6), 1);
    due("casts(0)", x.casts(0), 7);
    has(x, 1, 2, 3, 4, 5, 0, 6);
    row(x, 0, 8, 0, 1, 2, 3, 4, 5, 6);
    due("move by one upward", x.move(0, 0, 0, 1, 6), 6);
    due("put", x.put(0, 0, 6), 1);
    due("casts(0)", x.casts(0), 7);
    has(x, 6, 0, 1, 2, 3, 4, 5);
    row(x, 1, 8, 3, 2, 1);
    due("move to another", x.move(0, 5, 1, 0, 2), 2);
    due("casts(1)", x.casts(1), 3);
    has(x, 4, 5, 1, -1);
    due("the one that they come from stays", x.casts(0), 7);
    due("n 0", x.move(0, 7, 1, 3, 0), 0);
    due("n 0 behind the end", x.move(0, 8, 1, 3, 0), BEYOND);
    due("n 0 behind the other's end", x.move(0, 7, 1, 4, 0), BEYOND);
    due("n -1", x.move(0, 1, 1, 1, -1), BEYOND);
    due("i -1", x.move(0, -1, 1, 0, 1), BEYOND);
    due("j -1", x.move(0, 0, 1, -1, 1), BEYOND);
    due("too many", x.move(0, 0, 1, 0, 4), BEYOND);
    due("too many from i", x.move(0, 6, 1, 0, 2), BEYOND);
    due("i + n would wrap", x.move(0, MAX, 1, 0, 1), BEYOND);
    due("j + n would wrap", x.move(0, 0, 1, MAX, 1), BEYOND);
    due("n MAX", x.move(0, 1, 0, 1, MAX), BEYOND);
    due("n MIN", x.move(0, 1, 0, 1, MIN), BEYOND);
    due("nothing has come", x.casts(1), 3);
    x.sheet(2, 16, 3);
    due("unlike bits", x.move(0, 0, 2, 0, 1), KIND);
    due("unlike bits, ahead of BEYOND", x.move(0, 9, 2, 9, -1), KIND);
    due("missing", x.move(0, 0, 3, 0, 1), NONE);
    due("missing", x.move(3, -1, 0, 0, 1), NONE);
    due("no such", x.move(3, 0, 4, 0, 1), BEYOND);
    due("no such", x.move(-1, 0, 3, 0, 1), BEYOND);
  }

  /** What children 0, 1, .. have is due to be these parts (-1: none); sheet 3 is missing behind. */
  private static void has(PlayParts x, int... parts) {
    row(x, 3, 32, parts);
    due("how many have what is due", x.judge(3), parts.length);
    x.sheet(3, 0, 0);
  }

  private static void promise31() {
    topic = "promise 31";
    PlayParts x = new PlayParts();
    x.part(0);
    x.part(14);
    x.part(0);
    x.child(5, 1, 0);
    x.child(3, 1, 0);
    x.child(9, 1, 0);
    x.cast(0, 1);
    due("casts(-1)", x.casts(-1), BEYOND);
    due("casts(4)", x.casts(4), BEYOND);
    due("casts(0), missing", x.casts(0), NONE);
    due("nothing has changed", x.childIs(0, 5), 1);
    row(x, 0, 8, 1, 0, 2);
    due("casts(0)", x.casts(0), 3);
    due("childIs(0, 5)", x.childIs(0, 5), 1);
    due("childIs(1, 5)", x.childIs(1, 5), 0);
    due("childIs(2, 5)", x.childIs(2, 5), 2);
    row(x, 0, 8);
    due("casts of none", x.casts(0), 0);
    due("nobody has one any more", x.childIs(2, 5), -1);
    row(x, 0, 16, 2, 1, 0);
    due("who may not play stops it", x.casts(0), 1);
    due("childIs(0, 5)", x.childIs(0, 5), 2);
    due("childIs(1, 5)", x.childIs(1, 5), -1);
    due("childIs(2, 5)", x.childIs(2, 5), -1);
    row(x, 0, 16, 2, -1, 2);
    due("what one ahead has stops it", x.casts(0), 2);
    row(x, 0, 16, -1, -1, 2, -1);
    due("nobody for the fourth", x.casts(0), 3);
    due("childIs(2, 5)", x.childIs(2, 5), 2);
    row(x, 0, 32, 3, 0, 2);
    due("no such part", x.casts(0), 0);
    row(x, 0, 32, -2, 0, 2);
    due("no such part", x.casts(0), 0);
    due("nobody has one", x.childIs(1, 5), -1);
    row(x, 0, 32, 0, 2, 1);
    due("casts(0)", x.casts(0), 3);
    row(x, 0, 32, 2, 0, 1);
    due("what they had ahead does not matter", x.casts(0), 3);
    due("no ERROR", x.told(2), 1);
    due("no ERROR", x.told(1), 2);
    x.falls(0, 1);
    due("who is ill stops it", x.casts(0), 0);
    row(x, 0, 32, -1, 0);
    due("who is ill may have none", x.casts(0), 2);
  }

  private static void promise32() {
    topic = "promise 32";
    PlayParts x = new PlayParts();
    x.part(0);
    x.part(0);
    x.child(5, 1, 0);
    x.child(3, 1, 0);
    x.child(3, 1, 0);
    x.cast(0, 1);
    x.cast(2, 0);
    due("judge(-1)", x.judge(-1), BEYOND);
    due("judge(4)", x.judge(4), BEYOND);
    due("judge(0), missing", x.judge(0), NONE);
    row(x, 0, 8, 1, -1, 0);
    due("judge(0)", x.judge(0), 3);
    row(x, 0, 16, 1, -1);
    due("judge of two", x.judge(0), 2);
    row(x, 0, 32, 1, 0, 0);
    due("the second is wrong", x.judge(0), 1);
    row(x, 0, 32, 0, -1, 0);
    due("the first is wrong", x.judge(0), 0);
    row(x, 0, 32, 1, -1, 0, 0);
    due("nobody for the fourth", x.judge(0), 3);
    row(x, 0, 32, 257, -1, 0);
    due("257 is not 1", x.judge(0), 0);
    row(x, 0, 32);
    due("judge of none", x.judge(0), 0);
    due("nothing changes", x.childIs(0, 5), 1);
  }

  private static void promise33And34() {
    topic = "promises 33 and 34";
    PlayParts x = new PlayParts();
    due("restore()", x.restore(), NONE);
    due("told(2)", x.told(2), 1);
    x.part(13);
    x.part(4);
    x.child(5, 6, 0);
    x.child(7, 2, 1);
    x.wishes(0, 0, 1);
    x.wishes(1, 2, 0);
    x.cast(0, 1);
    x.play();
    x.cast(1, 0);
    x.falls(0, 1);
    text(x, 0, "w*7");
    text(x, 1, "w+s");
    feed(x, "w+1");
    x.tell(0);
    x.tell(8);
    x.seed(99);
    row(x, 0, 8, -1, 0);
    x.voice(1, 0, 3);
    due("image()", x.image(), 1);
    changeAll(x);
    due("restore()", x.restore(), 1);
    asKept(x);
    due("told() is not restored", x.told(2), 1);
    due("SHEETS are not restored", x.judge(0), NONE);
    due("THE TRACE is not restored", x.count(6), 2);
    // The IMAGE stays, and what is done behind does not come to it.
    changeAll(x);
    due("restore() again", x.restore(), 1);
    asKept(x);
    due("image() counts on", x.image(), 2);
    x.play();
    due("image() in place of one ahead", x.image(), 3);
    x.play();
    due("restore()", x.restore(), 2);
    due("count(2)", x.count(2), 2);
    x.restore();
    due("image() is not restored", x.image(), 4);
  }

  private static void changeAll(PlayParts x) {
    x.become(0, 65);
    x.part(7);
    x.child(1, 1, 1);
    x.falls(0, 0);
    x.falls(1, 1);
    x.wishes(0, 0, 2);
    x.wishes(1, 2, -1);
    x.cast(0, -1);
    x.cast(1, -1);
    x.loose(3);
    x.cast(0, 2);
    x.tell(5);
    x.check();
    x.tell(1);
    x.text(1);
    x.untell(0);
    x.untell(1);
    feed(x, "((((");
    x.sheet(0, 0, 0);
    x.seed(12);
    x.voice(0, 1, 3);
    x.voice(0, 0, 3);
    x.voice(1, 1, 3);
  }

  private static void asKept(PlayParts x) {
    int[] counts = {2, 2, 1, 30, 3, 2, 2, 99};
    for (int what = 0; what < 8; what++) {
      due("count(" + what + ")", x.count(what), counts[what]);
    }
    due("partIs(0, 0)", x.partIs(0, 0), 1);
    due("partIs(0, 1)", x.partIs(0, 1), 3);
    int[] first = {5, 6, 0, 1, 1, -1, 1, -1, -1, 0};
    int[] second = {7, 2, 1, 0, -1, 0, -1, -1, 0, 8};
    for (int what = 0; what < 10; what++) {
      due("childIs(0, " + what + ")", x.childIs(0, what), first[what]);
      due("childIs(1, " + what + ")", x.childIs(1, what), second[what]);
    }
    due("law(0, 3, 0, 0)", x.law(0, 3, 0, 0), 21);
    due("law(1, 3, 5, 0)", x.law(1, 3, 5, 0), 8);
    due("the numbers that wait", x.check(), 0);
    due("the tape", x.text(0), 1);
    due("the tape", x.law(0, 3, 0, 0), 4);
    x.restore();
    due("they wait again", x.count(5), 2);
  }

  private static void promise35() {
    topic = "promise 35";
    PlayParts x = new PlayParts();
    for (int i = 0; i < 24; i++) {
      due("tell " + i, x.tell(i), i + 1);
    }
    due("tell of 24", x.tell(0), FULL);
    due("count(5)", x.count(5), 24);
    x.check();
    due("tell", x.tell(MIN), 1);
  }

  private static void promise36() {
    topic = "promise 36";
    PlayParts x = new PlayParts();
    due("check() of none", x.check(), 0);
    x.part(0);
    x.child(1, 1, 0);
    x.child(1, 1, 0);
    x.child(1, 1, 0);
    x.wishes(1, 0, 0);
    x.cast(1, 0);
    x.tell(0);
    x.tell(30);
    x.tell(0);
    due("all are so", x.check(), 0);
    due("none wait then", x.count(5), 0);
    x.tell(0);
    x.tell(30);
    due("fewer", x.check(), 0);
    x.tell(0);
    x.tell(29);
    x.tell(5);
    due("the second isn't so", x.check(), 2);
    due("none wait then", x.count(5), 0);
    x.tell(1);
    due("the first isn't so", x.check(), 1);
    x.tell(0);
    x.tell(30);
    x.tell(0);
    x.tell(0);
    due("nobody for the fourth", x.check(), 4);
    due("check() of none", x.check(), 0);
    due("no ERROR", x.told(1), 0);
  }

  private static void promise37() {
    topic = "promise 37";
    PlayParts x = new PlayParts();
    x.part(1);
    x.part(1);
    x.child(1, 1, 0);
    x.child(1, 1, 0);
    x.child(1, 1, 0);
    text(x, 1, "5");
    x.play();
    x.play();
    x.play();
    x.play();
    feed(x, "abcde");
    for (int i = 0; i < 6; i++) {
      x.tell(i);
    }
    x.voice(0, 2, 5);
    x.seed(-9);
    int[] counts = {2, 3, 4, 60, 5, 6, 3, -9};
    for (int what = 0; what < 8; what++) {
      due("count(" + what + ")", x.count(what), counts[what]);
    }
    due("count(8)", x.count(8), BEYOND);
    due("count(-1)", x.count(-1), BEYOND);
    due("count(MIN)", x.count(MIN), BEYOND);
    due("told(1)", x.told(1), 3);
  }

  private static void promise38() {
    topic = "promise 38";
    PlayParts x = new PlayParts();
    due("told(0)", x.told(0), BEYOND);
    due("told(7)", x.told(7), BEYOND);
    due("told(-1)", x.told(-1), BEYOND);
    due("told(MAX)", x.told(MAX), BEYOND);
    due("told(1)", x.told(1), 4);
    due("told(1) is no ERROR", x.told(1), 4);
    x.part(0);
    x.child(0, 1, 0);
    x.child(0, 1, 0);
    x.cast(0, 0);
    x.restore();
    x.restore();
    x.cast(1, 0);
    x.sheet(0, 8, -1);
    x.sheet(0, 8, -1);
    for (int i = 0; i < 28; i++) {
      x.tell(0);
    }
    x.as(0, 1);
    x.as(0, 2);
    x.as(0, 3);
    x.as(0, 4);
    x.as(0, 5);
    x.voice(0, 3, 1);
    x.voice(0, 3, 1);
    x.voice(0, 3, 1);
    x.image();
    x.restore();
    int[] told = {4, 2, 3, 4, 5, 3};
    for (int k = 1; k <= 6; k++) {
      due("told(" + k + ")", x.told(k), told[k - 1]);
    }
  }
}
