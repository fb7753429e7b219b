/** The edges of FACTS, EVENINGS, the ROW, THE IMAGE and what is counted (promises 26 to 35). */
public final class EveningEdgesTest {
  private static final int LEAST = Integer.MIN_VALUE;
  private static final int GREATEST = Integer.MAX_VALUE;
  private static final int[] SEEDS = {0, 1, -1, 77, -77, LEAST, LEAST + 1, GREATEST, GREATEST - 1, 1013904223};

  private EveningEdgesTest() {
  }

  public static void main(String[] args) {
    facts();
    hadOfNone();
    hadBehindEach();
    hadReadsTheLowestDigits();
    lateAndSoonOfNone();
    lateAndSoonOfEachCount();
    lateAndSoonOfLikeOrders();
    lateAndSoonOfAll();
    lateAndSoonFollowTheFacts();
    drawsAtTheEdges();
    drawsByWeights();
    drawsAtEachWord();
    eveningsOfEachLength();
    eveningsOfMostPoints();
    aSeedIsNotKept();
    rows();
    judgeOfNone();
    judgeOfEachPlace();
    judgeByWhoAnsweredFirst();
    judgeBySeeds();
    imageOfANewObject();
    imageOfAFullObject();
    imageOfEachPart();
    imageOfSetsAndPoints();
    theLastImageCounts();
    whatStaysByOn();
    counts();
    Check.exit("EveningEdgesTest");
  }

  private static void due(String what, long got, long want) {
    Check.due(what, got, want);
  }

  private static BeforeTheEnd withFacts(int... facts) {
    BeforeTheEnd x = new BeforeTheEnd();
    for (int i = 0; i < facts.length; i++) due("a FACT's number", x.fact(facts[i]), i);
    return x;
  }

  // Sets of ANSWERS (bits 1 .. 9): 0 .. 1022, even; 5 at most.
  private static void facts() {
    for (int bits = 0; bits <= 1022; bits++) {
      BeforeTheEnd x = new BeforeTheEnd();
      due("fact(" + bits + ")", x.fact(bits), bits % 2 == 0 ? 0 : -1);
      due("FACTS", x.count(3), bits % 2 == 0 ? 1 : 0);
      due("had by it", x.had(x.count(3), 0), bits % 2 == 0 && Integer.bitCount(bits) == 1 ? 1 : 6);
    }
    BeforeTheEnd x = withFacts(2, 2, 2, 2, 2);
    due("a sixth", x.fact(2), -6);
    due("five", x.count(3), 5);
  }

  // Behind how many FACTS just one ANSWER is in all of them; 6 behind none.
  private static void hadOfNone() {
    due("no FACTS", new BeforeTheEnd().had(0, 0), 6);
    BeforeTheEnd x = withFacts(2, 0, 1022, 6, 12);
    due("none of five", x.had(0, 0), 6);
    due("one that holds none", x.had(1, 1), 6);
    due("one that holds all", x.had(1, 2), 6);
    due("two ANSWERS in it", x.had(1, 3), 6);
    due("two, then none", withFacts(6, 24).had(2, 10), 6);
    due("none, then one", x.had(2, 1), 6);
    due("one, then none", x.had(2, 10), 1);
    due("two, then one, then none", withFacts(6, 12, 2).had(3, 210), 2);
  }

  private static void hadBehindEach() {
    // Each FACT takes one ANSWER of five away but the last, of which one is left behind five.
    BeforeTheEnd x = withFacts(0b111110, 0b011110, 0b001110, 0b000110, 0b000010);
    for (int n = 0; n <= 5; n++) due("had behind " + n, x.had(n, 43210), n == 5 ? 5 : 6);
    due("had at once", x.had(5, 32104), 1);
    due("had by the second", x.had(2, 40), 2);
    due("had by the third", x.had(3, 430), 3);
    due("had by the fourth", x.had(4, 4310), 4);
  }

  // An order told as digits, the lowest first.
  private static void hadReadsTheLowestDigits() {
    BeforeTheEnd x = withFacts(2, 6, 14, 1022, 0);
    due("0 behind 1", x.had(2, 1), 2);
    due("1 behind 0", x.had(2, 10), 1);
    due("0 as the last of five", x.had(5, 1234), 6);
    due("0 behind three", x.had(4, 123), 4);
    due("the greatest order", x.had(5, 43210), 1);
  }

  private static void lateAndSoonOfNone() {
    BeforeTheEnd x = new BeforeTheEnd();
    for (int i = -1; i <= 6; i++) {
      due("late(" + i + ")", x.late(i), i == -1 ? 6 : -9);
      due("soon(" + i + ")", x.soon(i), i == -1 ? 6 : -9);
    }
    due("late(greatest)", x.late(GREATEST), -9);
    due("soon(greatest)", x.soon(GREATEST), -9);
  }

  // Its HAD (i -1), its i-th FACT; -9 none such.
  private static void lateAndSoonOfEachCount() {
    for (int n = 1; n <= 5; n++) {
      BeforeTheEnd x = widening(n);
      due("latest of " + n, x.late(-1), n);
      due("soonest of " + n, x.soon(-1), 1);
      for (int i = 0; i < n; i++) {
        due("latest order of " + n + " at " + i, x.late(i), i == n - 1 ? 0 : i + 1);
        due("soonest order of " + n + " at " + i, x.soon(i), i);
      }
      for (int i : new int[] {n, n + 1, 5, 6, 32, GREATEST}) {
        due("late behind " + n, x.late(i), -9);
        due("soon behind " + n, x.soon(i), -9);
      }
    }
  }

  /** So many FACTS, each with one ANSWER more. */
  private static BeforeTheEnd widening(int n) {
    BeforeTheEnd x = new BeforeTheEnd();
    for (int i = 0; i < n; i++) x.fact((4 << i) - 2);
    return x;
  }

  // Of several the first by numbers.
  private static void lateAndSoonOfLikeOrders() {
    BeforeTheEnd x = withFacts(2, 2, 2, 2, 2);
    BeforeTheEnd y = withFacts(1022, 1022, 0, 1022, 6);
    for (int i = -1; i < 5; i++) {
      due("like FACTS, late " + i, x.late(i), i < 0 ? 1 : i);
      due("like FACTS, soon " + i, x.soon(i), i < 0 ? 1 : i);
      due("never had, late " + i, y.late(i), i < 0 ? 6 : i);
      due("never had, soon " + i, y.soon(i), i < 0 ? 6 : i);
    }
    BeforeTheEnd z = withFacts(1022, 6, 6, 10);
    // Had by 1 and 3 (ANSWER 1): soonest behind two, first of all as 1, 3, 0, 2; never sooner with 0 ahead.
    int[] soonest = {2, 1, 3, 0, 2};
    int[] latest = {4, 0, 1, 2, 3};
    for (int i = -1; i < 4; i++) {
      due("two that tell it, soon " + i, z.soon(i), soonest[i + 1]);
      due("two that tell it, late " + i, z.late(i), latest[i + 1]);
    }
  }

  /** Against every order of five, by the call that tells HAD. */
  private static void lateAndSoonOfAll() {
    int[][] sets = {{6, 12, 24, 10, 1022}, {62, 28, 44, 100, 1022}, {6, 14, 22, 38, 70}, {1020, 14, 98, 66, 4},
        {0, 2, 6, 14, 1022}, {2, 4, 8, 16, 32}};
    for (int[] set : sets) {
      BeforeTheEnd x = withFacts(set);
      int late = 0;
      int soon = 99;
      int lateOrder = 0;
      int soonOrder = 0;
      for (int order = 0; order <= 99999; order++) {
        if (!isOrder(order)) continue;
        int had = withFacts(set).had(5, reversed(order));
        if (had > late) {
          late = had;
          lateOrder = order;
        }
        if (had < soon) {
          soon = had;
          soonOrder = order;
        }
      }
      due("late", x.late(-1), late);
      due("soon", x.soon(-1), soon);
      for (int i = 4; i >= 0; i--) {
        due("late at " + i, x.late(i), lateOrder % 10);
        due("soon at " + i, x.soon(i), soonOrder % 10);
        lateOrder /= 10;
        soonOrder /= 10;
      }
    }
  }

  private static boolean isOrder(int digits) {
    int seen = 0;
    for (int i = 0, over = digits; i < 5; i++, over /= 10) seen |= 1 << over % 10;
    return seen == 31;
  }

  private static int reversed(int digits) {
    int back = 0;
    for (int i = 0, over = digits; i < 5; i++, over /= 10) back = back * 10 + over % 10;
    return back;
  }

  private static void lateAndSoonFollowTheFacts() {
    BeforeTheEnd x = new BeforeTheEnd();
    x.image();
    int[] facts = {1022, 62, 6, 2, 0};
    int[] late = {6, 6, 6, 4, 6};
    int[] soon = {6, 6, 6, 1, 1};
    for (int i = 0; i < 5; i++) {
      x.fact(facts[i]);
      due("late of " + (i + 1), x.late(-1), late[i]);
      due("soon of " + (i + 1), x.soon(-1), soon[i]);
      due("soon of " + (i + 1) + ", again", x.soon(0), i < 3 ? 0 : 3);
    }
    x.on();
    due("soon of none again", x.soon(-1), 6);
    due("late of none again", x.late(-1), 6);
    x.fact(2);
    due("late of another one", x.late(-1), 1);
    x.fact(6);
    due("late of two", x.late(-1), 2);
    due("the wide one first", x.late(0), 1);
    due("soon of two", x.soon(0), 0);
  }

  /** The seed next after z, in a long that does not wrap around. */
  private static int next(int z) {
    long unsigned = z & 0xffffffffL;
    return (int) ((unsigned * 1664525 + 1013904223) % 4294967296L);
  }

  /** The seed ahead of z. */
  private static int ahead(int z) {
    int inverse = 1;
    for (int i = 0; i < 6; i++) inverse *= 2 - 1664525 * inverse;
    return (z - 1013904223) * inverse;
  }

  private static int drawn(int z, int m) {
    return (int) (((z & 0xffffffffL) % 2147483648L) / 256 % m);
  }

  /** Which of nine ENDS with ANSWERS 1 .. 9 is drawn by a seed, so that z is the seed behind the DRAW. */
  private static int endDrawnAt(int z) {
    int found = 0;
    for (int a = 1; a <= 9; a++) {
      BeforeTheEnd x = new BeforeTheEnd();
      for (int w = 1; w <= 9; w++) Check.quiz(x, "w0,1," + w + ";");
      Check.quiz(x, "pe00:" + a + ";");
      due("the seed ahead", next(ahead(z)), z);
      if (x.evening(1, ahead(z), 0) == 10) found = found * 10 + a;
    }
    return found;
  }

  // Z without its sign's bit by 256, cut, modulo m.
  private static void drawsAtTheEdges() {
    due("z 0", endDrawnAt(0), 1);
    due("z 255", endDrawnAt(255), 1);
    due("z 256", endDrawnAt(256), 2);
    due("z 511", endDrawnAt(511), 2);
    due("z 9 * 256 - 1", endDrawnAt(2303), 9);
    due("z 9 * 256", endDrawnAt(2304), 1);
    // 8388607 is 4 modulo 9.
    due("the greatest z", endDrawnAt(GREATEST), 5);
    due("z -1", endDrawnAt(-1), 5);
    due("the greatest z less 256", endDrawnAt(GREATEST - 256), 4);
    due("z -257", endDrawnAt(-257), 4);
    due("the least z", endDrawnAt(LEAST), 1);
    due("the least z and 255", endDrawnAt(LEAST + 255), 1);
    due("the least z and 256", endDrawnAt(LEAST + 256), 2);
    due("the least z and 2303", endDrawnAt(LEAST + 2303), 9);
    for (int z : SEEDS) due("z " + z, endDrawnAt(z), 1 + drawn(z, 9));
  }

  // By numbers; the first with which their sum is above it.
  private static void drawsByWeights() {
    for (int draw = 0; draw < 15; draw++) {
      int want = draw < 4 ? 1 : draw < 5 ? 2 : draw < 14 ? 3 : 4;
      for (int a = 1; a <= 4; a++) {
        BeforeTheEnd x = Check.with("w0,4,1;w0,1,2;w0,9,3;w0,1,4;", "pe00:" + a + ";");
        due("DRAW " + draw + ", ANSWER " + a, x.evening(1, ahead(256 * draw), 0), a == want ? 10 : 0);
      }
    }
  }

  // From WORD 0 on at each WORD a DRAW, of one next WORD, too.
  private static void drawsAtEachWord() {
    for (int length = 1; length <= 22; length++) {
      BeforeTheEnd x = new BeforeTheEnd();
      for (int w = 0; w + 1 < length; w++) Check.quiz(x, "w" + w + ",9,0;");
      if (length == 22) Check.quiz(x, "w21,1,1;w21,2,2;pe00:2;");
      else Check.quiz(x, "w" + (length - 1) + ",1,1;w" + (length - 1) + ",2,2;pe00:2;");
      for (int seed : SEEDS) {
        int z = seed;
        for (int i = 0; i < length; i++) z = next(z);
        due("a way of " + length + " by " + seed, x.evening(1, seed, 0), drawn(z, 3) >= 1 ? 10 : 0);
      }
    }
  }

  private static BeforeTheEnd thirds(String players) {
    return Check.with("w0,1,0;w1,1,1;w1,2,2;", players);
  }

  /** Whether END 3 is drawn in each of n questions. */
  private static boolean[] secondEnds(int n, int seed) {
    boolean[] second = new boolean[n];
    int z = seed;
    for (int i = 0; i < n; i++) {
      z = next(next(z));
      second[i] = drawn(z, 3) >= 1;
    }
    return second;
  }

  // N questions (1 .. 20): all POINTS of a PLAYER (may be below 0).
  private static void eveningsOfEachLength() {
    for (int seed : SEEDS) {
      BeforeTheEnd x = thirds("pt00:1;pe00:2;pe00:3;");
      x.setOf(0, 2);
      int first = 0;
      int other = 0;
      boolean[] second = secondEnds(20, seed);
      for (int n = 1; n <= 20; n++) {
        first += second[n - 1] ? -5 : 10;
        other += second[n - 1] ? 10 : 0;
        due("an evening of " + n + " by " + seed, x.evening(n, seed, 0), first);
        due("an evening of " + n + " by " + seed + ", another one's", x.evening(n, seed, 1), other);
        due("an evening of one who knows none", x.evening(n, seed, 2), 0);
      }
    }
  }

  private static void eveningsOfMostPoints() {
    BeforeTheEnd x = thirds("pt00:1;");
    x.points(0, 0);
    x.points(1, 20);
    x.setOf(0, 2);
    int wrong = 0;
    for (boolean second : secondEnds(20, LEAST)) wrong += second ? 20 : 0;
    due("below 0", x.evening(20, LEAST, 0), -wrong);
    BeforeTheEnd y = Check.with("w0,1,1;", "pe00:1;");
    y.points(0, 20);
    due("20 of 20", y.evening(20, 0, 0), 400);
    y.points(0, 0);
    due("nothing for it", y.evening(20, 0, 0), 0);
  }

  private static void aSeedIsNotKept() {
    BeforeTheEnd x = thirds("pe00:2;");
    int once = x.evening(20, -77, 0);
    x.evening(3, 5, 0);
    x.judge(9);
    due("the same evening again", x.evening(20, -77, 0), once);
  }

  // A byte (0 .. 9) more of the ROW: how many (20 at most).
  private static void rows() {
    BeforeTheEnd x = new BeforeTheEnd();
    for (int i = 1; i <= 20; i++) due("row", x.row(i % 10), i);
    due("one too many", x.row(0), -6);
    due("20", x.count(4), 20);
  }

  private static void judgeOfNone() {
    BeforeTheEnd x = thirds("pe00:2;");
    for (int seed : SEEDS) due("an empty ROW", x.judge(seed), -9);
    BeforeTheEnd y = new BeforeTheEnd();
    y.row(9);
    due("WORD 0 alone", y.judge(0), -3);
    Check.quiz(y, "w0,1,1;");
    due("it stayed", y.count(4), 1);
    due("none answers", y.judge(0), -9);
    due("the ROW has none then", y.count(4), 0);
  }

  /** A TREE at whose END player 1 always answers: the first byte that is not so, at each place of each ROW. */
  private static void judgeOfEachPlace() {
    for (int n = 1; n <= 20; n++) {
      for (int at = 0; at <= n; at++) {
        BeforeTheEnd x = Check.with("w0,1,1;", "pe50:1;pe10:1;");
        for (int i = 0; i < n; i++) x.row(i == at ? 0 : i > at ? 9 : 1);
        due("a ROW of " + n + ", another one at " + at, x.judge(n), at < n ? at : -9);
        due("the ROW has none then", x.count(4), 0);
        due("an empty ROW", x.judge(n), -9);
      }
    }
  }

  // Who answered first (9 none): right or WRONG.
  private static void judgeByWhoAnsweredFirst() {
    for (int v = 0; v <= 9; v++) {
      BeforeTheEnd x = Check.with("w0,1,1;", "pe00:2;");
      x.row(v);
      due("none answers, told " + v, x.judge(0), v == 9 ? -9 : 0);
      BeforeTheEnd y = thirds("pe00:12;pt90:1;");
      y.setOf(1, 2);
      for (int i = 0; i < 20; i++) y.row(v);
      due("one at WORD 1, right or WRONG, told " + v, y.judge(3), v == 1 ? -9 : 0);
      y.points(3, 0);
      for (int i = 0; i < 20; i++) y.row(v);
      due("with BOTH 0, told " + v, y.judge(3), v == 1 ? -9 : 0);
    }
  }

  private static void judgeBySeeds() {
    for (int seed : SEEDS) {
      BeforeTheEnd x = thirds("pe00:2;");
      boolean[] second = secondEnds(20, seed);
      for (int i = 0; i < 20; i++) x.row(second[i] ? 0 : 9);
      due("an EVENING of 20 by " + seed, x.judge(seed), -9);
      for (int i = 0; i < 20; i++) x.row(second[i] == (i < 19) ? 0 : 9);
      due("but for the last", x.judge(seed), 19);
    }
  }

  private static void imageOfANewObject() {
    BeforeTheEnd x = new BeforeTheEnd();
    due("none was taken", x.on(), -3);
    due("WORD 0 alone", x.image(), 1);
    for (int times = 0; times < 3; times++) {
      Check.quiz(x, "w0,1,1;pt00:1;pe00:1;pe00:1;pe00:1;");
      for (int i = 0; i < 5; i++) due("room for five FACTS", x.fact(2), i);
      x.setOf(0, 2);
      for (int what = 0; what < 4; what++) x.points(what, 0);
      due("on", x.on(), 1);
      Check.due("all is as of a new object", Check.state(x), Check.state(new BeforeTheEnd()));
    }
    for (int w = 1; w <= 23; w++) due("room for 23 WORDS", Check.quiz(x, "w0,1,1;"), 1);
    due("back from 24", x.on(), 1);
    due("WORDS", x.count(0), 1);
  }

  private static void imageOfAFullObject() {
    BeforeTheEnd x = new BeforeTheEnd();
    for (int w = 0; w < 22; w++) {
      Check.feed(x, "w" + w + ",1,0;");
      if (w % 8 == 7) x.quiz();
    }
    Check.feed(x, "w22,1,1;");
    due("a TREE of 23", x.quiz(), 7);
    Check.quiz(x, "pt00:1;pt00:1;pt00:1;pt00:1;");
    for (int p = 0; p < 4; p++) x.setOf(p, (1 << 24) - 1 - p);
    for (int i = 0; i < 5; i++) x.fact(2 << i);
    String then = Check.state(x);
    due("24 WORDS", x.image(), 24);
    for (int p = 0; p < 4; p++) x.setOf(p, 0);
    due("back to 24", x.on(), 24);
    Check.due("all is as then", Check.state(x), then);
    due("no room for a WORD", Check.quiz(x, "w0,1,1;"), -2000);
    due("no room for a PLAYER", Check.quiz(x, "pe00:1;"), -2000);
    due("no room for a FACT", x.fact(0), -6);
  }

  // WORDS, PLAYERS, their SETS, POINTS, FACTS: each alone comes back.
  private static void imageOfEachPart() {
    BeforeTheEnd x = thirds("pt00:1;");
    x.setOf(0, 6);
    x.fact(6);
    x.points(2, 3);
    x.image();
    String then = Check.state(x);
    Check.quiz(x, "w1,9,3;");
    x.on();
    Check.due("WORDS", Check.state(x), then);
    Check.quiz(x, "pe00:123;");
    x.on();
    Check.due("PLAYERS", Check.state(x), then);
    x.fact(12);
    x.on();
    Check.due("FACTS", Check.state(x), then);
    Check.quiz(x, "w0,1,0;");
    due("not WHOLE", x.whole(), 0);
    x.on();
    due("WHOLE again", x.whole(), 1);
    Check.quiz(x, "pt00:2;");
    due("a new one has no SET", x.player(1, 4), 0);
    x.setOf(1, 4);
    x.on();
    Check.quiz(x, "pt00:3;");
    due("nor has another one in its place", x.player(1, 4), 0);
  }

  private static void imageOfSetsAndPoints() {
    BeforeTheEnd x = thirds("pt00:1;");
    x.setOf(0, 6);
    x.points(2, 3);
    x.image();
    String then = Check.state(x);
    x.setOf(0, 1);
    x.on();
    Check.due("SETS", Check.state(x), then);
    for (int what = 0; what < 4; what++) {
      x.points(what, 1 - what / 3);
      x.on();
      Check.due("POINTS " + what, Check.state(x), then);
    }
  }

  private static void theLastImageCounts() {
    BeforeTheEnd x = new BeforeTheEnd();
    x.image();
    Check.quiz(x, "w0,1,1;");
    due("two", x.image(), 2);
    Check.quiz(x, "w0,1,2;");
    due("back to two", x.on(), 2);
    due("and again", x.on(), 2);
    Check.quiz(x, "w0,1,3;w0,1,4;");
    due("four", x.image(), 4);
    due("on at once", x.on(), 4);
    due("the ANSWER of the last", x.word(3, 2), 4);
  }

  // THE TAPE, the ROW and REFUSALS stay.
  private static void whatStaysByOn() {
    BeforeTheEnd x = Check.with("w0,1,1;", "pe00:1;");
    x.image();
    x.row(0);
    x.row(9);
    Check.feed(x, "w0,1,2;");
    x.word(9, 0);
    x.word(0, 9);
    x.row(-1);
    x.row(10);
    x.law(-1);
    due("on", x.on(), 2);
    due("the ROW", x.count(4), 2);
    due("THE TAPE", x.count(5), 7);
    int[] want = {1, 1, 0, 2, 0, 1};
    for (int i = 0; i < 6; i++) due("REFUSALS -" + (i + 1), x.count(11 + i), want[i]);
    due("the ROW's bytes", x.judge(0), 1);
    due("THE TAPE's bytes", x.quiz(), 1);
    due("on", x.on(), 2);
    due("an empty ROW stays so", x.count(4), 0);
    due("an empty TAPE stays so", x.count(5), 0);
    BeforeTheEnd y = Check.with("w0,1,1;", "pe00:1;");
    y.row(0);
    y.feed(3, 0);
    y.image();
    y.judge(0);
    y.quiz();
    y.on();
    due("a ROW of THE IMAGE does not come back", y.count(4), 0);
    due("nor does THE TAPE", y.count(5), 0);
  }

  private static void counts() {
    BeforeTheEnd x = new BeforeTheEnd();
    for (int what = -3; what <= 40; what++) {
      long want = what == 0 ? 1 : what >= 1 && what <= 5 || what >= 11 && what <= 16 ? 0 : -9;
      due("count(" + what + ") of a new object", x.count(what), want);
    }
    for (int what : new int[] {LEAST, GREATEST, 256, 1 << 16}) due("count(" + what + ")", x.count(what), -9);
    for (int i = 1; i <= 100; i++) {
      x.word(1, 0);
      x.row(-1);
    }
    due("a hundred of -1", x.count(11), 100);
    due("a hundred of -4", x.count(14), 100);
    Check.quiz(x, "w0,1,0;w1,1,1;w1,1,1;");
    due("ENDS", x.count(2), 2);
    Check.quiz(x, "w0,1,2;");
    due("ENDS more", x.count(2), 3);
  }
}
