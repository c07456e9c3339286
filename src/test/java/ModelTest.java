import java.util.ArrayList;
import java.util.Arrays;
import java.util.List;
import java.util.Random;

/**
 * Runs of calls, drawn from fixed seeds, on the class and on a second one that is written apart from it: it tries all
 * casts one by one and reads a text by a row of states. Each answer is compared.
 *
 * <p>What the document leaves open is not asked: THE TRACE behind a voice() that answered PARTED, and fits() of a
 * sheet with more numbers than there are children.
 */
public final class ModelTest {
  private static final int RUNS = 6000;
  private static final int CALLS = 500;
  private static final int MOST_REPORTS = 20;

  private static int asked = 0;
  private static int wrong = 0;

  public static void main(String[] args) {
    for (int run = 0; run < RUNS && wrong < MOST_REPORTS; run++) {
      new Run(run).go();
    }
    System.out.println(asked + " answers compared, " + wrong + " unlike");
    if (wrong != 0) {
      System.exit(1);
    }
  }

  /** One run: what is drawn in it leans to one group of calls, so that runs go deep there. */
  private static final class Run {
    /** By some of these several casts come to the same, by some a second wish is worth more than a first one. */
    private static final String[] WORTHS = {
      "w", "w/2", "w=2", "w%3+l", "w*w-4*l", "w-l*2", "w*v%7", "!l*w", "5-w", "w=3|w=2&l", "9-3*w", "1", "w>1", "w*l+v"
    };
    private final int number;
    private final Random random;
    private final PlayParts real = new PlayParts();
    private final Model model = new Model();
    private final int lean;
    private final List<String> calls = new ArrayList<>();

    Run(int number) {
      this.number = number;
      this.random = new Random(number);
      this.lean = number % 8;
    }

    void go() {
      int parts = random.nextInt(8);
      int children = random.nextInt(8);
      for (int i = 0; i < parts; i++) {
        call(0, random.nextInt(3) == 0 ? 10 * random.nextInt(7) : random.nextInt(70), 0, 0, 0, 0);
      }
      for (int i = 0; i < children; i++) {
        call(5, random.nextInt(10), 1 + random.nextInt(9), random.nextInt(2), 0, 0);
        for (int k = 0; k < 3 && parts > 0; k++) {
          call(7, i, k, random.nextInt(parts + 1) - 1, 0, 0);
        }
      }
      if (random.nextInt(3) > 0) {
        feedAll(WORTHS[random.nextInt(WORTHS.length)]);
        call(12, 0, 0, 0, 0, 0);
        call(17, 1 + random.nextInt(3), 0, 0, 0, 0);
      }
      boolean dear = parts * children > 30;
      int length = lean == 3 ? (dear ? 20 : 60) : 60 + random.nextInt(200);
      while (calls.size() < Math.min(CALLS, length) && wrong < MOST_REPORTS) {
        step();
      }
      look();
    }

    private int pick(int... from) {
      return from[random.nextInt(from.length)];
    }

    /** An index, mostly one of those that there are. */
    private int index(int many) {
      if (random.nextInt(12) == 0) {
        return pick(-2, -1, many, many + 1, Integer.MIN_VALUE, Integer.MAX_VALUE);
      }
      return many == 0 ? 0 : random.nextInt(many);
    }

    private int aPart() {
      return index(model.parts.size());
    }

    private int aPartOrNone() {
      return random.nextInt(4) == 0 ? -1 : aPart();
    }

    private int aChild() {
      return index(model.children.size());
    }

    private int aNumber() {
      switch (random.nextInt(4)) {
        case 0:
          return random.nextInt();
        case 1:
          return pick(Integer.MIN_VALUE, Integer.MAX_VALUE, -1, 0, 1, 256, 65536);
        default:
          return random.nextInt(41) - 20;
      }
    }

    private int drawCall() {
      int[] group;
      switch (random.nextInt(3) == 0 ? random.nextInt(8) : lean) {
        case 0:
          group = new int[] {0, 1, 1, 1, 2, 3, 4, 5, 6, 6, 6, 7, 8, 9, 10, 10};
          break;
        case 1:
          group = new int[] {11, 12, 13, 14, 14, 14};
          break;
        case 2:
          group = new int[] {15, 16, 17, 18, 6, 8, 7, 10, 10};
          break;
        case 3:
          group = new int[] {19, 19, 19, 20, 21, 22, 22, 22, 22, 23, 23, 7, 7, 8, 2, 11, 15, 16, 32, 33, 0, 5};
          break;
        case 4:
          group = new int[] {25, 26, 2};
          break;
        case 5:
          group = new int[] {27, 28, 28, 28, 28, 29, 29, 30, 30, 31, 24, 24};
          break;
        case 6:
          group = new int[] {32, 33, 33, 2, 7, 8, 10, 12, 16, 34, 36};
          break;
        default:
          group = new int[] {34, 34, 35, 36, 37, 10, 16};
          break;
      }
      return pick(group);
    }

    private void step() {
      int call = drawCall();
      switch (call) {
        case 0:
          call(call, index(70), 0, 0, 0, 0);
          break;
        case 1:
          call(call, aPart(), index(5), 0, 0, 0);
          break;
        case 2:
          call(call, aPart(), index(70), 0, 0, 0);
          break;
        case 3:
          call(call, aPart(), index(7), 0, 0, 0);
          break;
        case 5:
          call(call, index(10), 1 + index(9) % 20, index(2), 0, 0);
          break;
        case 6:
          call(call, aChild(), index(10), 0, 0, 0);
          break;
        case 7:
          call(call, aChild(), index(3), aPartOrNone(), 0, 0);
          break;
        case 8:
          call(call, aChild(), index(2), 0, 0, 0);
          break;
        case 9:
          call(call, aChild(), aPart(), 0, 0, 0);
          break;
        case 10:
          call(call, aChild(), aPartOrNone(), 0, 0, 0);
          break;
        case 11:
          feedSigns();
          break;
        case 13:
        case 12:
          call(call, index(2), 0, 0, 0, 0);
          break;
        case 14:
          call(call, index(2), aNumber(), aNumber(), aNumber(), 0);
          break;
        case 17:
          call(call, random.nextInt(4) == 0 ? index(22) : 1 + random.nextInt(3), 0, 0, 0, 0);
          break;
        case 18:
          call(call, aNumber(), 0, 0, 0, 0);
          break;
        case 19:
          call(call, random.nextInt(9) == 0 ? index(8) : random.nextInt(8) - 1, 0, 0, 0, 0);
          break;
        case 21:
          call(call, aChild(), 0, 0, 0, 0);
          break;
        case 22:
        case 23:
          call(call, aChild(), index(2), 0, 0, 0);
          break;
        case 24:
          call(call, index(4), index(2), 0, 0, 0);
          break;
        case 25:
          call(call, aPart(), index(4), aNumber(), 0, 0);
          break;
        case 26:
          call(call, index(7), 0, 0, 0, 0);
          break;
        case 27:
          call(call, index(4), pick(8, 16, 32, 8, 16, 32, 0, 7), index(25), 0, 0);
          break;
        case 28:
          call(call, index(4), random.nextInt(3) == 0 ? index(24) : random.nextInt(8), aSheetNumber(), 0, 0);
          break;
        case 29:
          call(call, index(4), index(9), index(4), index(9), index(9));
          break;
        case 30:
        case 31:
          call(call, index(4), 0, 0, 0, 0);
          break;
        case 34:
          call(call, aTold(), 0, 0, 0, 0);
          break;
        case 36:
          call(call, index(8), 0, 0, 0, 0);
          break;
        case 37:
          call(call, random.nextInt(8), 0, 0, 0, 0);
          break;
        default:
          call(call, 0, 0, 0, 0, 0);
          break;
      }
    }

    private int aSheetNumber() {
      return random.nextInt(6) == 0 ? aNumber() : random.nextInt(model.parts.size() + 1) - 1;
    }

    private int aTold() {
      int place = model.waiting.size();
      return place < model.children.size() && random.nextInt(8) > 0 ? model.joyOf(place) : aNumber();
    }

    private void feedSigns() {
      if (random.nextInt(10) == 0) {
        feed(random.nextLong(), index(9));
        return;
      }
      if (model.tape.size() > 20) {
        call(12, random.nextInt(2), 0, 0, 0, 0);
      }
      String signs = aText(random.nextInt(4), random.nextInt(2) == 0 ? "wlv" : "wsy");
      if (random.nextInt(3) == 0) {
        signs = spoilt(signs);
      }
      feedAll(signs.substring(0, Math.min(40, signs.length())));
      if (random.nextInt(4) > 0) {
        call(12, random.nextInt(2), 0, 0, 0, 0);
      }
    }

    private void feedAll(String signs) {
      for (int i = 0; i < signs.length(); ) {
        int n = Math.min(1 + random.nextInt(8), signs.length() - i);
        long word = n == 8 ? 0 : random.nextLong() << (8 * n);
        for (int k = 0; k < n; k++) {
          word |= (long) signs.charAt(i + k) << (8 * k);
        }
        feed(word, n);
        i += n;
      }
    }

    private String aText(int depth, String names) {
      switch (depth <= 0 ? random.nextInt(2) : random.nextInt(6)) {
        case 0:
          return String.valueOf(random.nextInt(4) == 0 ? random.nextInt(10000) : random.nextInt(12));
        case 1:
          return String.valueOf(names.charAt(random.nextInt(3)));
        case 2:
          return "!" + aText(depth - 1, names);
        case 3:
          return "(" + aText(depth - 1, names) + ")";
        default:
          return aText(depth - 1, names) + "|&<=>+-*/%".charAt(random.nextInt(10)) + aText(depth - 1, names);
      }
    }

    private String spoilt(String signs) {
      String all = "0123456789wlvsy!()|&<=>+-*/% ~\u00ff";
      int at = random.nextInt(signs.length() + 1);
      String sign = String.valueOf(all.charAt(random.nextInt(all.length())));
      switch (random.nextInt(3)) {
        case 0:
          return signs.substring(0, at) + sign + signs.substring(at);
        case 1:
          return signs.substring(0, at) + signs.substring(Math.min(signs.length(), at + 1));
        default:
          return signs.substring(0, at);
      }
    }

    private void feed(long word, int n) {
      compare("feed(" + word + ", " + n + ")", real.feed(word, n), model.feed(word, n));
    }

    private void call(int call, int a, int b, int c, int d, int e) {
      if (model.leavesOpen(call, a)) {
        return;
      }
      String text = NAMES[call] + Arrays.toString(Arrays.copyOf(new int[] {a, b, c, d, e}, TAKES[call]));
      int due;
      try {
        due = model.answer(call, a, b, c, d, e);
      } catch (Refusal refusal) {
        due = model.refuse(refusal.k);
      }
      compare(text, ask(call, a, b, c, d, e), due);
    }

    private void compare(String call, int got, int want) {
      calls.add(call);
      asked++;
      if (got != want) {
        wrong++;
        System.out.println("run " + number + ", call " + calls.size() + ": " + call + " answered " + got
            + ", the model " + want);
        if (wrong == 1) {
          System.out.println("  behind " + calls);
        }
      }
    }

    /** All that can be asked without a change. */
    private void look() {
      for (int what = 0; what < 8; what++) {
        call(36, what, 0, 0, 0, 0);
      }
      for (int i = 0; i < model.children.size(); i++) {
        for (int what = 0; what < 10; what++) {
          call(6, i, what, 0, 0, 0);
        }
      }
      for (int i = 0; i < model.parts.size(); i++) {
        for (int what = 0; what < 5; what++) {
          call(1, i, what, 0, 0, 0);
        }
      }
      for (int i = 0; i < 8; i++) {
        call(26, i, 0, 0, 0, 0);
      }
      for (int k = 1; k < 7; k++) {
        call(37, k, 0, 0, 0, 0);
      }
    }

    private int ask(int call, int a, int b, int c, int d, int e) {
      switch (call) {
        case 0: return real.part(a);
        case 1: return real.partIs(a, b);
        case 2: return real.become(a, b);
        case 3: return real.as(a, b);
        case 5: return real.child(a, b, c);
        case 6: return real.childIs(a, b);
        case 7: return real.wishes(a, b, c);
        case 8: return real.falls(a, b);
        case 9: return real.worth(a, b);
        case 10: return real.cast(a, b);
        case 12: return real.text(a);
        case 13: return real.untell(a);
        case 14: return real.law(a, b, c, d);
        case 15: return real.play();
        case 16: return real.lots();
        case 17: return real.loose(a);
        case 18: return real.seed(a);
        case 19: return real.best(a);
        case 20: return real.wished();
        case 21: return real.without(a);
        case 22: return real.lies(a, b);
        case 23: return real.odds(a, b);
        case 24: return real.fits(a, b);
        case 25: return real.voice(a, b, c);
        case 26: return real.body(a);
        case 27: return real.sheet(a, b, c);
        case 28: return real.put(a, b, c);
        case 29: return real.move(a, b, c, d, e);
        case 30: return real.casts(a);
        case 31: return real.judge(a);
        case 32: return real.image();
        case 33: return real.restore();
        case 34: return real.tell(a);
        case 35: return real.check();
        case 36: return real.count(a);
        case 37: return real.told(a);
        default: return real.count(0);
      }
    }
  }

  private static final String[] NAMES = {
    "part", "partIs", "become", "as", "count(0) ", "child", "childIs", "wishes", "falls", "worth", "cast", "feed",
    "text", "untell", "law", "play", "lots", "loose", "seed", "best", "wished", "without", "lies", "odds", "fits",
    "voice", "body", "sheet", "put", "move", "casts", "judge", "image", "restore", "tell", "check", "count", "told"
  };
  private static final int[] TAKES = {
    1, 2, 2, 2, 0, 3, 2, 3, 2, 2, 2, 2,
    1, 1, 4, 0, 0, 1, 1, 1, 0, 1, 2, 2, 2,
    3, 1, 3, 3, 5, 1, 1, 0, 0, 1, 0, 1, 1
  };

  /** An ERROR, k below LOW. */
  private static final class Refusal extends RuntimeException {
    private static final long serialVersionUID = 1;
    final int k;

    Refusal(int k) {
      this.k = k;
    }
  }

  private static final class Model {
    final List<int[]> parts = new ArrayList<>();
    /** VOICE, SIZE, SHY, ILL, LAST, HAS, three WISHES: in the order of childIs(). */
    final List<int[]> children = new ArrayList<>();
    final List<Integer> tape = new ArrayList<>();
    final List<Integer> waiting = new ArrayList<>();
    final List<Integer> trace = new ArrayList<>();
    final String[] texts = new String[2];
    final int[][] sheets = new int[4][];
    final int[] bits = new int[4];
    final int[] told = new int[7];
    int year;
    int joy;
    int z = 1;
    int images;
    Model kept;
    boolean traceOpen;

    boolean leavesOpen(int call, int a) {
      if (call == 26 || (call == 36 && a == 6)) {
        return traceOpen;
      }
      return call == 24 && a >= 0 && a < 4 && sheets[a] != null && sheets[a].length > children.size();
    }

    int refuse(int k) {
      told[k]++;
      return -1000000000 - k;
    }

    private static void need(boolean holds, int k) {
      if (!holds) {
        throw new Refusal(k);
      }
    }

    private static boolean in(long v, long least, long most) {
      return least <= v && v <= most;
    }

    private void needPart(int part) {
      need(in(part, 0, parts.size() - 1), 1);
    }

    private void needPartOrNone(int part) {
      need(in(part, -1, parts.size() - 1), 1);
    }

    private void needChild(int child) {
      need(in(child, 0, children.size() - 1), 1);
    }

    private static void copy(Model from, Model to) {
      to.parts.clear();
      from.parts.forEach(p -> to.parts.add(p.clone()));
      to.children.clear();
      from.children.forEach(c -> to.children.add(c.clone()));
      to.tape.clear();
      to.tape.addAll(from.tape);
      to.waiting.clear();
      to.waiting.addAll(from.waiting);
      to.texts[0] = from.texts[0];
      to.texts[1] = from.texts[1];
      to.year = from.year;
      to.joy = from.joy;
      to.z = from.z;
    }

    int feed(long word, int n) {
      if (!in(n, 1, 8)) {
        return refuse(1);
      }
      if (tape.size() + n > 60) {
        return refuse(4);
      }
      long rest = word;
      for (int i = 0; i < n; i++) {
        tape.add((int) (rest & 0xFF));
        rest >>= 8;
      }
      return tape.size();
    }

    int answer(int call, int a, int b, int c, int d, int e) {
      if (call <= 10) {
        return ofPartsAndChildren(call, a, b, c);
      }
      if (call <= 18) {
        return ofTextsAndYears(call, a, b, c, d);
      }
      if (call <= 24) {
        return ofCasts(call, a, b);
      }
      if (call <= 31) {
        return ofVoicesAndSheets(call, a, b, c, d, e);
      }
      return ofTheRest(call, a);
    }

    private int ofPartsAndChildren(int call, int a, int b, int c) {
      switch (call) {
        case 0:
          need(in(a, 0, 69), 1);
          need(parts.size() < 7, 4);
          parts.add(new int[] {a / 10, a % 10});
          return parts.size() - 1;
        case 1:
          needPart(a);
          need(in(b, 0, 4), 1);
          return partIs(a, b);
        case 2:
          needPart(a);
          need(in(b, 0, 69), 1);
          int kind = parts.get(a)[0];
          parts.set(a, new int[] {b / 10, b % 10});
          return kind;
        case 3:
          needPart(a);
          need(in(b, 0, 6), 1);
          int is = parts.get(a)[0];
          need(is == b || b == 0 || (is == 4 && b == 1) || (is == 5 && b == 2), 5);
          return parts.get(a)[1];
        case 5:
          need(in(a, 0, 9) && in(b, 1, 9) && in(c, 0, 1), 1);
          need(children.size() < 7, 4);
          children.add(new int[] {a, b, c, 0, -1, -1, -1, -1, -1});
          return children.size() - 1;
        case 6:
          needChild(a);
          need(in(b, 0, 9), 1);
          return b == 9 ? joyOf(a) : children.get(a)[b];
        case 7:
          needChild(a);
          need(in(b, 0, 2), 1);
          needPartOrNone(c);
          return swap(children.get(a), 6 + b, c);
        case 8:
          needChild(a);
          need(in(b, 0, 1), 1);
          return swap(children.get(a), 3, b);
        case 9:
          needChild(a);
          needPart(b);
          return worth(a, b);
        case 10:
          needChild(a);
          needPartOrNone(b);
          need(b == -1 || may(a, b), 3);
          for (int i = 0; i < children.size(); i++) {
            need(b == -1 || i == a || children.get(i)[5] != b, 3);
          }
          return swap(children.get(a), 5, b);
        default:
          return parts.size();
      }
    }

    private static int swap(int[] row, int i, int v) {
      int old = row[i];
      row[i] = v;
      return old;
    }

    private int partIs(int part, int what) {
      int kind = parts.get(part)[0];
      int m = parts.get(part)[1];
      if (what < 2) {
        return what == 0 ? kind : m;
      }
      if (what == 2) {
        int[] lines = {m, m + m + 1, m / 2, 0, m + m + 1 + year % 3, m / 2 + 1, 0};
        return lines[kind];
      }
      int set = 0;
      for (int i = 0; i < children.size(); i++) {
        if (what == 3 && children.get(i)[5] == part) {
          return i;
        }
        set += may(i, part) ? 1 << i : 0;
      }
      return what == 3 ? -1 : set;
    }

    private boolean may(int child, int part) {
      int[] one = children.get(child);
      int kind = parts.get(part)[0];
      int m = parts.get(part)[1];
      boolean reads = one[0] >= m;
      boolean small = one[1] <= m;
      boolean[] may = {true, reads, small, true, reads && one[2] == 0, small && one[1] > m / 2, one[2] == 1 || m > 4};
      return one[3] == 0 && may[kind];
    }

    private int worth(int child, int part) {
      int[] one = children.get(child);
      int dear = one[6] == part ? 3 : one[7] == part ? 2 : one[8] == part ? 1 : 0;
      return law(0, dear, one[4] == part ? 1 : 0, one[0]);
    }

    int joyOf(int child) {
      int[] one = children.get(child);
      return law(1, one[5] < 0 ? 0 : worth(child, one[5]), one[2], year % 7);
    }

    private int law(int use, int a, int b, int c) {
      int v;
      if (texts[use] != null) {
        v = new Worker(texts[use], use == 0 ? "wlv" : "wsy", a, b, c).workOut();
      } else {
        v = use == 0 ? 10 * a : a;
      }
      int least = use == 0 ? 0 : -99;
      return v < least ? least : v > 99 ? 99 : v;
    }

    private int ofTextsAndYears(int call, int a, int b, int c, int d) {
      switch (call) {
        case 12:
          need(in(a, 0, 1), 1);
          StringBuilder signs = new StringBuilder();
          tape.forEach(t -> signs.append((char) (int) t));
          tape.clear();
          int fault = fault(signs.toString(), a == 0 ? "wlv" : "wsy");
          if (fault >= 0) {
            return -10 - fault;
          }
          texts[a] = signs.toString();
          return 1;
        case 13:
          need(in(a, 0, 1), 1);
          int was = texts[a] == null ? 0 : 1;
          texts[a] = null;
          return was;
        case 14:
          need(in(a, 0, 1), 1);
          return law(a, b, c, d);
        case 15:
          need(year < 9999, 3);
          return theyPlay();
        case 16:
          return lots();
        case 17:
          need(in(a, 1, 20), 1);
          need(year + a <= 9999, 3);
          for (int i = 0; i < a; i++) {
            lots();
            theyPlay();
          }
          return joy;
        default:
          int old = z;
          z = a;
          return old;
      }
    }

    /** By what may come next and what is open: an operand, or an operator; for each ( if it has compared. */
    private static int fault(String signs, String names) {
      boolean operand = true;
      int digits = 0;
      List<Character> open = new ArrayList<>();
      List<Boolean> compared = new ArrayList<>(List.of(false));
      for (int i = 0; i < signs.length(); i++) {
        char sign = signs.charAt(i);
        boolean digit = "0123456789".indexOf(sign) >= 0;
        int top = compared.size() - 1;
        if (operand && (sign == '!' || sign == '(')) {
          if (open.size() == 5) {
            return i;
          }
          open.add(sign);
          if (sign == '(') {
            compared.add(false);
          }
        } else if (operand && (digit || names.indexOf(sign) >= 0)) {
          operand = false;
          digits = digit ? 1 : 99;
          closeNots(open);
        } else if (!operand && digit && digits < 4) {
          digits++;
        } else if (!operand && sign == ')' && open.contains('(')) {
          open.remove(open.size() - 1);
          compared.remove(top);
          digits = 99;
          closeNots(open);
        } else if (!operand && "<=>".indexOf(sign) >= 0 && !compared.get(top)) {
          compared.set(top, true);
          operand = true;
        } else if (!operand && "|&".indexOf(sign) >= 0) {
          compared.set(top, false);
          operand = true;
        } else if (!operand && "+-*/%".indexOf(sign) >= 0) {
          operand = true;
        } else {
          return i;
        }
      }
      return operand || !open.isEmpty() ? signs.length() : -1;
    }

    private static void closeNots(List<Character> open) {
      while (!open.isEmpty() && open.get(open.size() - 1) == '!') {
        open.remove(open.size() - 1);
      }
    }

    private int theyPlay() {
      int sum = 0;
      for (int i = 0; i < children.size(); i++) {
        sum += joyOf(i);
      }
      for (int[] one : children) {
        one[4] = one[5] == -1 ? one[4] : one[5];
        one[5] = -1;
      }
      joy = Math.max(-99999, Math.min(99999, joy + sum));
      year++;
      return sum;
    }

    private int lots() {
      int set = 0;
      for (int[] one : children) {
        one[5] = -1;
      }
      for (int i = 0; i < children.size(); i++) {
        List<Integer> free = new ArrayList<>();
        for (int p = 0; p < parts.size(); p++) {
          if (partIs(p, 3) == -1 && may(i, p)) {
            free.add(p);
          }
        }
        if (!free.isEmpty()) {
          z = z * 1103515245 + 12345;
          children.get(i)[5] = free.get((z >>> 8) % free.size());
          set |= 1 << i;
        }
      }
      return set;
    }

    private int ofCasts(int call, int a, int b) {
      switch (call) {
        case 19:
          need(in(a, -1, 6), 1);
          need(a < children.size(), 2);
          int[] best = bestCast(-1, false);
          return a == -1 ? best[7] : best[a];
        case 20:
          return bestCast(-1, true)[7];
        case 21:
          needChild(a);
          return bestCast(-1, false)[7] - bestCast(a, false)[7];
        case 22:
          needChild(a);
          need(in(b, 0, 1), 1);
          return lies(a)[b];
        case 23:
          needChild(a);
          need(in(b, 0, 1), 1);
          return odds(a)[b];
        default:
          need(in(a, 0, 3) && in(b, 0, 1), 1);
          need(sheets[a] != null, 2);
          return fits(sheets[a], b);
      }
    }

    /** The parts of children 0 to 6, and what they come to: all casts in their order, the first of the best. */
    private int[] bestCast(int without, boolean byWishes) {
      int[][] weight = new int[7][7];
      for (int i = 0; i < children.size(); i++) {
        for (int p = 0; p < parts.size(); p++) {
          int[] one = children.get(i);
          boolean wish = one[6] == p || one[7] == p || one[8] == p;
          weight[i][p] = byWishes ? (wish ? 1 : 0) : worth(i, p);
          if (!may(i, p) || i == without) {
            weight[i][p] = -1;
          }
        }
      }
      int[] best = new int[8];
      best[7] = -1;
      tryCasts(0, 0, 0, new int[7], weight, best);
      return best;
    }

    private void tryCasts(int child, int taken, int sum, int[] cast, int[][] weight, int[] best) {
      if (child == children.size()) {
        if (sum > best[7]) {
          System.arraycopy(cast, 0, best, 0, 7);
          best[7] = sum;
        }
        return;
      }
      for (int p = 0; p < parts.size(); p++) {
        if (weight[child][p] >= 0 && (taken & 1 << p) == 0) {
          cast[child] = p;
          tryCasts(child + 1, taken | 1 << p, sum + weight[child][p], cast, weight, best);
        }
      }
      cast[child] = -1;
      tryCasts(child + 1, taken, sum, cast, weight, best);
    }

    private int[] lies(int child) {
      int[] one = children.get(child);
      int[] wishes = Arrays.copyOfRange(one, 6, 9);
      int[] worths = new int[parts.size()];
      for (int p = 0; p < worths.length; p++) {
        worths[p] = worth(child, p);
      }
      int honest = bestCast(-1, false)[child];
      int start = honest == -1 ? 0 : worths[honest];
      int most = start;
      int which = -1;
      for (int lie = 0; lie < 70; lie++) {
        if (lie / 10 < worths.length && lie % 10 < worths.length) {
          one[6] = lie / 10;
          one[7] = lie % 10;
          one[8] = -1;
          int got = bestCast(-1, false)[child];
          if (got != -1 && worths[got] > most) {
            most = worths[got];
            which = lie;
          }
        }
      }
      System.arraycopy(wishes, 0, one, 6, 3);
      return new int[] {which, most - start};
    }

    private int[] odds(int child) {
      int[] one = children.get(child);
      int above = 0;
      int below = 0;
      for (int p = 0; p < parts.size(); p++) {
        if (may(child, p)) {
          below++;
          above += one[6] == p || one[7] == p || one[8] == p ? 1 : 0;
        }
      }
      need(below > 0, 3);
      for (int by = 7; by > 1; by--) {
        if (above % by == 0 && below % by == 0) {
          above /= by;
          below /= by;
        }
      }
      return new int[] {above, below};
    }

    private int fits(int[] row, int what) {
      Model thought = new Model();
      copy(this, thought);
      int many = 0;
      int least = -1;
      for (int seed = 255; seed >= 0; seed--) {
        thought.z = seed;
        thought.lots();
        boolean like = true;
        for (int i = 0; i < row.length; i++) {
          like &= thought.children.get(i)[5] == row[i];
        }
        if (like) {
          many++;
          least = seed;
        }
      }
      need(what == 0 || many > 0, 2);
      return what == 0 ? many : least;
    }

    private int ofVoicesAndSheets(int call, int a, int b, int c, int d, int e) {
      switch (call) {
        case 25:
          needPart(a);
          need(in(b, 0, 3), 1);
          return voice(a, b, c);
        case 26:
          need(in(a, 0, trace.size() - 1), 2);
          return trace.get(a);
        case 27:
          need(in(a, 0, 3) && (b == 0 || b == 8 || b == 16 || b == 32), 1);
          need(b == 0 || c >= 0, 3);
          need(b == 0 || c <= 24, 1);
          bits[a] = b;
          sheets[a] = b == 0 ? null : new int[c];
          return 1;
        case 28:
          need(in(a, 0, 3), 1);
          need(sheets[a] != null, 2);
          need(in(b, 0, sheets[a].length - 1), 1);
          sheets[a][b] = c << (32 - bits[a]) >> (32 - bits[a]);
          return 1;
        case 29:
          need(in(a, 0, 3) && in(c, 0, 3), 1);
          need(sheets[a] != null && sheets[c] != null, 2);
          need(bits[a] == bits[c], 5);
          need(b >= 0 && d >= 0 && e >= 0, 1);
          need((long) b + e <= sheets[a].length && (long) d + e <= sheets[c].length, 1);
          int[] old = sheets[a].clone();
          for (int i = 0; i < e; i++) {
            sheets[c][d + i] = old[b + i];
          }
          return e;
        case 30:
          need(in(a, 0, 3), 1);
          need(sheets[a] != null, 2);
          return casts(sheets[a]);
        default:
          need(in(a, 0, 3), 1);
          need(sheets[a] != null, 2);
          int right = 0;
          while (right < sheets[a].length && right < children.size()
              && children.get(right)[5] == sheets[a][right]) {
            right++;
          }
          return right;
      }
    }

    private int voice(int part, int voice, int x) {
      int kind = parts.get(part)[0];
      int m = parts.get(part)[1];
      Spoken[] kinds = {
        new Spoken(), new Speaker(), new Crown(), new Beast(), new Singer(), new Camel(), new Star()
      };
      Spoken spoken = kinds[kind];
      spoken.k = part;
      spoken.m = m;
      traceOpen = true;
      int v = spoken.speak(voice, x);
      traceOpen = false;
      trace.clear();
      trace.addAll(spoken.bodies);
      return v;
    }

    private int casts(int[] row) {
      for (int[] one : children) {
        one[5] = -1;
      }
      for (int i = 0; i < row.length; i++) {
        if (i == children.size() || !in(row[i], -1, parts.size() - 1)) {
          return i;
        }
        if (row[i] >= 0 && (!may(i, row[i]) || partIs(row[i], 3) >= 0)) {
          return i;
        }
        children.get(i)[5] = row[i];
      }
      return row.length;
    }

    private int ofTheRest(int call, int a) {
      switch (call) {
        case 32:
          kept = new Model();
          copy(this, kept);
          return ++images;
        case 33:
          need(kept != null, 2);
          copy(kept, this);
          return year;
        case 34:
          need(waiting.size() < 24, 4);
          waiting.add(a);
          return waiting.size();
        case 35:
          List<Integer> numbers = new ArrayList<>(waiting);
          waiting.clear();
          for (int i = 0; i < numbers.size(); i++) {
            if (i == children.size() || numbers.get(i) != joyOf(i)) {
              return i + 1;
            }
          }
          return 0;
        case 36:
          need(in(a, 0, 7), 1);
          int[] counts = {
            parts.size(), children.size(), year, joy, tape.size(), waiting.size(), trace.size(), z
          };
          return counts[a];
        default:
          need(in(a, 1, 6), 1);
          return told[a];
      }
    }
  }

  /** Works a text out as it reads it; it is a text. */
  private static final class Worker {
    private final String signs;
    private final String names;
    private final int[] values;
    private int at = 0;

    Worker(String signs, String names, int... values) {
      this.signs = signs + "\0";
      this.names = names;
      this.values = values;
    }

    int workOut() {
      int v = and();
      while (signs.charAt(at) == '|') {
        at++;
        int w = and();
        v = v != 0 || w != 0 ? 1 : 0;
      }
      return v;
    }

    private int and() {
      int v = compared();
      while (signs.charAt(at) == '&') {
        at++;
        int w = compared();
        v = v != 0 && w != 0 ? 1 : 0;
      }
      return v;
    }

    private int compared() {
      int v = sum();
      char sign = signs.charAt(at);
      if (sign == '<' || sign == '=' || sign == '>') {
        at++;
        int order = Integer.compare(v, sum());
        return order == (sign == '<' ? -1 : sign == '=' ? 0 : 1) ? 1 : 0;
      }
      return v;
    }

    private int sum() {
      int v = product();
      while (signs.charAt(at) == '+' || signs.charAt(at) == '-') {
        boolean plus = signs.charAt(at++) == '+';
        int w = product();
        v = plus ? v + w : v - w;
      }
      return v;
    }

    private int product() {
      int v = factor();
      while ("*/%".indexOf(signs.charAt(at)) >= 0) {
        char sign = signs.charAt(at++);
        long w = factor();
        if (sign == '*') {
          v = (int) (v * w);
        } else if (w == 0) {
          v = 0;
        } else {
          v = (int) (sign == '/' ? v / w : v % w);
        }
      }
      return v;
    }

    private int factor() {
      char sign = signs.charAt(at++);
      if (sign == '!') {
        return factor() == 0 ? 1 : 0;
      }
      if (sign == '(') {
        int v = workOut();
        at++;
        return v;
      }
      if (names.indexOf(sign) >= 0) {
        return values[names.indexOf(sign)];
      }
      int from = at - 1;
      while (Character.isDigit(signs.charAt(at))) {
        at++;
      }
      return Integer.parseInt(signs.substring(from, at));
    }
  }

  /** The VOICES as Java itself knows them: says(..) by the object, super.says(..) by the class above. */
  private static class Spoken {
    final List<Integer> bodies = new ArrayList<>();
    int k;
    int m;

    int speak(int voice, int x) {
      return voice == 0 ? says(x) : voice == 1 ? sings(x) : voice == 2 ? waits(x) : parts(x);
    }

    int says(int x) {
      bodies.add(10);
      return x + k;
    }

    int sings(int x) {
      bodies.add(11);
      return says(x) * 2;
    }

    int waits(int x) {
      bodies.add(12);
      return sings(x) - m;
    }

    int parts(int x) {
      bodies.add(13);
      if (m == k) {
        throw new Refusal(6);
      }
      return x / (m - k);
    }
  }

  private static class Speaker extends Spoken {
    @Override
    int says(int x) {
      bodies.add(20);
      return super.says(x) - 4;
    }

    @Override
    int parts(int x) {
      bodies.add(21);
      return super.parts(x) + sings(1);
    }
  }

  private static class Crown extends Spoken {
    @Override
    int sings(int x) {
      bodies.add(30);
      return 0 - super.sings(x);
    }
  }

  private static final class Beast extends Spoken {
    @Override
    int waits(int x) {
      bodies.add(40);
      return super.waits(x / 2);
    }
  }

  private static final class Singer extends Speaker {
    @Override
    int says(int x) {
      bodies.add(50);
      return super.says(x) * 3;
    }

    @Override
    int waits(int x) {
      bodies.add(51);
      return super.waits(x) ^ k;
    }
  }

  private static final class Camel extends Crown {
    @Override
    int sings(int x) {
      bodies.add(60);
      return super.sings(x + 1);
    }
  }

  private static final class Star extends Spoken {
    @Override
    int says(int x) {
      bodies.add(70);
      return 9;
    }

    @Override
    int sings(int x) {
      bodies.add(71);
      return super.sings(x) + m;
    }
  }
}
