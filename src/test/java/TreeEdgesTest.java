/** The edges of the TREE (promises 1, 4 to 9): WORD 0 alone, 24 WORDS in a chain and side by side, CHANCES 0 and 1. */
public final class TreeEdgesTest {
  private TreeEdgesTest() {
  }

  public static void main(String[] args) {
    aNewObjectAnswersAll();
    wordZeroAlone();
    oneEnd();
    longestChain();
    widestTree();
    players();
    whole();
    left();
    chancesOfNoneAndAll();
    chancesInLeastTerms();
    leastChances();
    guessOfTheGreatest();
    guessOfSeveral();
    guessOfNone();
    Check.exit("TreeEdgesTest");
  }

  private static void due(String what, long got, long want) {
    Check.due(what, got, want);
  }

  private static void chance(String what, BeforeTheEnd x, int word, int answer, long above, long below) {
    Check.mean(what, x.chance(word, answer, 0), x.chance(word, answer, 1), above, below);
  }

  /** 22 WORDS in a chain, and an END behind the last of them. */
  private static BeforeTheEnd longest(int answer) {
    BeforeTheEnd x = new BeforeTheEnd();
    for (int w = 0; w < 22; w++) Check.quiz(x, "w" + w + ",9,0;");
    due("the END", Check.quiz(x, "w22,1," + answer + ";"), 1);
    return x;
  }

  /** 23 ENDS behind WORD 0. */
  private static BeforeTheEnd widest() {
    BeforeTheEnd x = new BeforeTheEnd();
    for (int w = 1; w <= 23; w++) due("an END", Check.quiz(x, "w0,9," + (1 + w % 9) + ";"), 1);
    return x;
  }

  // WORD 0 alone: what does not need more answers, all else is refused.
  private static void aNewObjectAnswersAll() {
    BeforeTheEnd x = new BeforeTheEnd();
    due("quiz", x.quiz(), -1000);
    due("fact", x.fact(0), 0);
    due("had", x.had(1, 0), 6);
    due("row", x.row(0), 1);
    due("image", x.image(), 1);
    due("on", x.on(), 1);
    due("feed", x.feed(1, 0), 1);
    for (int what = 11; what <= 16; what++) due("REFUSALS", x.count(what), 0);
  }

  private static void wordZeroAlone() {
    BeforeTheEnd x = new BeforeTheEnd();
    for (int what = 0; what <= 4; what++) due("word(0, " + what + ")", x.word(0, what), 0);
    due("whole", x.whole(), 0);
    due("left", x.left(0), 0);
    due("WORD 1", x.word(1, 0), -1);
    due("WORD 1 left", x.left(1), -1);
  }

  private static void oneEnd() {
    BeforeTheEnd x = Check.with("w0,1,9;", "pe00:9;");
    due("next of WORD 0", x.word(0, 4), 1);
    due("next of the END", x.word(1, 4), 0);
    due("LENGTH of the END", x.word(1, 3), 1);
    due("whole", x.whole(), 1);
    due("left", x.left(0), 512);
    chance("of the END", x, 1, 9, 1, 1);
    chance("of WORD 0", x, 0, 9, 1, 1);
    due("GUESS", x.guess(0, 0), 9);
    due("run", x.run(1, 0), 0);
  }

  private static void longestChain() {
    BeforeTheEnd x = longest(5);
    for (int w = 1; w <= 23; w++) {
      due("PARENT of " + w, x.word(w, 0), w - 1);
      due("LENGTH of " + w, x.word(w, 3), w);
      due("next of " + w, x.word(w, 4), w < 23 ? 1 : 0);
      due("left of " + w, x.left(w), 32);
      chance("of " + w, x, w, 5, 1, 1);
    }
    due("whole", x.whole(), 1);
    due("ENDS", x.count(2), 1);
  }

  private static void widestTree() {
    BeforeTheEnd x = widest();
    due("next of WORD 0", x.word(0, 4), 23);
    due("LENGTH of WORD 0", x.word(0, 3), 0);
    for (int w = 1; w <= 23; w++) due("LENGTH of " + w, x.word(w, 3), 1);
    due("ENDS", x.count(2), 23);
    due("left of WORD 0", x.left(0), 1022);
    // ANSWERS 2 to 6 stand at three of 23 ENDS, the others at two.
    for (int a = 1; a <= 9; a++) chance("of ANSWER " + a, x, 0, a, a >= 2 && a <= 6 ? 3 : 2, 23);
    for (int w = 3; w <= 23; w += 4) {
      for (int a = 1; a <= 9; a++) chance("of ANSWER " + a + " at " + w, x, w, a, a == 1 + w % 9 ? 1 : 0, 1);
    }
  }

  private static void players() {
    BeforeTheEnd x = Check.with("pe00:1;ps9100:9;pb50:123456789;pt01:2;");
    int[][] want = {{0, 0, 0, 2, 0}, {1, 9, 100, 512, 0}, {2, 5, 0, 1022, 0}, {4, 0, 1, 4, 0}};
    for (int p = 0; p < 4; p++) {
      for (int what = 0; what < 5; what++) due("player(" + p + ", " + what + ")", x.player(p, what), want[p][what]);
    }
    x.setOf(3, 1);
    due("its SET", x.player(3, 4), 1);
    BeforeTheEnd y = Check.with("w0,1,1;", "pe00:1;ps00:1;pb00:1;pl00:1;");
    for (int p = 0; p < 4; p++) due("no SET of KIND " + p, y.player(p, 4), 0);
    BeforeTheEnd z = Check.with("w0,1,1;", "pa00:1;pt00:1;");
    due("one ALONE would press", z.alone(0), 2);
    due("but has no SET", z.player(0, 4), 0);
    z.setOf(1, 3);
    due("one TOLD has all WORDS", z.player(1, 4), 3);
  }

  // WHOLE, if each WORD that is no END has some WORD whose PARENT it is.
  private static void whole() {
    due("WORD 0 alone", new BeforeTheEnd().whole(), 0);
    due("one END", Check.with("w0,1,1;").whole(), 1);
    due("one WORD that is none", Check.with("w0,1,0;").whole(), 0);
    due("the first of two is open", Check.with("w0,1,0;w0,1,1;").whole(), 0);
    due("the last of two is open", Check.with("w0,1,1;w0,1,0;").whole(), 0);
    BeforeTheEnd x = new BeforeTheEnd();
    for (int w = 0; w < 23; w++) {
      due("a chain of " + w, x.whole(), 0);
      Check.quiz(x, "w" + w + ",1," + (w == 22 ? 1 : 0) + ";");
    }
    due("the chain with its END", x.whole(), 1);
    BeforeTheEnd y = Check.with("w0,1,1;");
    due("a FAULT leaves it so", Check.quiz(y, "w0,1,0;w0,0,0;"), -2007);
    due("whole", y.whole(), 1);
    Check.quiz(y, "pe00:1;");
    due("a PLAYER, too", y.whole(), 1);
  }

  // ANSWERS (bits) of ENDS behind a WORD (itself).
  private static void left() {
    for (int a = 1; a <= 9; a++) due("left of an END", Check.with("w0,1," + a + ";").left(1), 1 << a);
    BeforeTheEnd x = Check.with("w0,1,0;w0,1,0;w1,1,9;w2,1,1;w2,1,1;w1,1,0;");
    due("both sides", x.left(0), 514);
    due("one", x.left(1), 512);
    due("an ANSWER twice", x.left(2), 2);
    due("an open WORD", x.left(6), 0);
  }

  private static void chancesOfNoneAndAll() {
    BeforeTheEnd x = Check.with("w0,9,0;w0,1,2;w1,1,1;w1,8,1;");
    chance("all of it", x, 1, 1, 1, 1);
    chance("none of it", x, 1, 2, 0, 1);
    for (int a = 3; a <= 9; a++) chance("of no END", x, 0, a, 0, 1);
    chance("nine tenths", x, 0, 1, 9, 10);
    chance("a tenth", x, 0, 2, 1, 10);
    chance("at its END", x, 2, 2, 1, 1);
    chance("at another END", x, 2, 1, 0, 1);
  }

  private static void chancesInLeastTerms() {
    BeforeTheEnd x = Check.with("w0,6,0;w0,3,0;w1,2,1;w1,4,2;w2,8,1;w2,4,3;");
    // 2/3 * 1/3 + 1/3 * 2/3 of ANSWER 1, 2/3 * 2/3 of 2, 1/3 * 1/3 of 3.
    chance("of 1", x, 0, 1, 4, 9);
    chance("of 2", x, 0, 2, 4, 9);
    chance("of 3", x, 0, 3, 1, 9);
    chance("a third", x, 1, 1, 1, 3);
    BeforeTheEnd y = Check.with("w0,6,1;w0,9,2;");
    chance("six of fifteen", y, 0, 1, 2, 5);
    for (int a = 1; a <= 9; a++) {
      for (int b = 1; b <= 9; b++) {
        BeforeTheEnd z = Check.with("w0," + a + ",1;w0," + b + ",2;");
        int divisor = a + b;
        while (a % divisor != 0 || (a + b) % divisor != 0) divisor--;
        chance(a + " against " + b, z, 0, 1, a / divisor, (a + b) / divisor);
      }
    }
  }

  /** Eleven times one of ten, and each of the others nine: the least CHANCE that 23 WORDS can tell. */
  private static void leastChances() {
    BeforeTheEnd x = new BeforeTheEnd();
    int at = 0;
    for (int w = 1; w <= 21; w += 2) {
      Check.quiz(x, "w" + at + ",1,0;w" + at + ",9,2;");
      at = w;
    }
    due("the END", Check.quiz(x, "w" + at + ",1,1;"), 1);
    due("WORDS", x.count(0), 24);
    due("LENGTH", x.word(23, 3), 12);
    chance("of the END", x, 0, 1, 1, 100000000000L);
    chance("of all others", x, 0, 2, 99999999999L, 100000000000L);
    chance("nine words on", x, 17, 1, 1, 100);
  }

  // Of ANSWERS that it KNOWS that with the greatest CHANCE above 0.
  private static void guessOfTheGreatest() {
    BeforeTheEnd x = Check.with("w0,4,1;w0,5,2;w0,9,3;w0,5,4;", "pe00:124;pe00:1234;pe00:1;pe00:14;");
    due("2 before 4, which is as likely", x.guess(0, 0), 2);
    due("3 is the greatest", x.guess(1, 0), 3);
    due("what it knows", x.guess(2, 0), 1);
    due("4 above 1", x.guess(3, 0), 4);
    BeforeTheEnd y = Check.with("w0,9,9;w0,8,1;", "pe00:19;");
    due("the greatest, not the least", y.guess(0, 0), 9);
  }

  // Of several the least.
  private static void guessOfSeveral() {
    BeforeTheEnd x = new BeforeTheEnd();
    for (int a = 9; a >= 1; a--) Check.quiz(x, "w0,3," + a + ";");
    Check.quiz(x, "pe00:987654321;pe00:98765432;pe00:89;pe00:9;");
    due("of all", x.guess(0, 0), 1);
    due("but 1", x.guess(1, 0), 2);
    due("of two", x.guess(2, 0), 8);
    due("of one", x.guess(3, 0), 9);
    // 1/2 * 2/3 of ANSWER 2 and 1/2 * 1/3 + 1/2 * 1/3 of ANSWER 5: by other ways as likely.
    BeforeTheEnd y = Check.with("w0,1,0;w0,1,0;w1,2,2;w1,1,5;w2,2,5;w2,4,9;", "pe00:52;pe00:529;");
    due("by other ways", y.guess(0, 0), 2);
    due("by other ways, of three", y.guess(1, 0), 2);
  }

  // 0 none.
  private static void guessOfNone() {
    BeforeTheEnd x = Check.with("w0,1,0;w0,1,2;w1,1,1;", "pe00:3456789;pe00:2;pe00:1;");
    for (int w = 0; w < 4; w++) due("knows none", x.guess(0, w), 0);
    due("not left", x.guess(1, 1), 0);
    due("not at this END", x.guess(2, 2), 0);
    due("at its END", x.guess(1, 2), 2);
    due("at WORD 0", x.guess(2, 0), 1);
  }
}
