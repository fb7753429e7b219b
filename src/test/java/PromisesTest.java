/** For each promise: ordinary calls, the edges that the document names, and wrong calls in the order of its refusals. */
public final class PromisesTest {
  // Two WORDS lead to two ENDS each: ANSWER 1 by 5/9, 2 by 1/3, 3 by 1/9.
  private static final String TREE = "w0,4,0;w0,2,0;w1,1,1;w1,1,2;w2,6,1;w2,3,3;";
  private static final String OPEN = "w0,4,0;w0,2,0;w1,1,1;";

  private PromisesTest() {
  }

  public static void main(String[] args) {
    newObject();
    feed();
    quiz();
    quizFaults();
    word();
    player();
    whole();
    left();
    chance();
    guess();
    points();
    setOf();
    presses();
    run();
    runBoth();
    winsAndWorth();
    nobody();
    dull();
    value();
    alone();
    reply();
    rest();
    law();
    mostEarly();
    silent();
    partners();
    fact();
    had();
    late();
    soon();
    evening();
    row();
    judge();
    image();
    on();
    count();
    Check.exit("PromisesTest");
  }

  private static void due(String what, long got, long want) {
    Check.due(what, got, want);
  }

  // Promise 1
  private static void newObject() {
    BeforeTheEnd x = new BeforeTheEnd();
    due("words", x.count(0), 1);
    for (int what = 1; what <= 5; what++) due("new count", x.count(what), 0);
    for (int what = 11; what <= 16; what++) due("new refusals", x.count(what), 0);
    for (int what = 0; what <= 4; what++) due("new word 0", x.word(0, what), 0);
    due("new whole", x.whole(), 0);
    due("new left", x.left(0), 0);
    due("new RIGHT", x.points(0, 0), 10);
    due("new WRONG", x.points(1, 0), 5);
    due("new EARLY", x.points(2, 0), 0);
    due("new BOTH", x.points(3, 0), 1);
  }

  // Promise 2
  private static void feed() {
    BeforeTheEnd x = new BeforeTheEnd();
    due("feed 1", x.feed(1, 0x7777), 1);
    due("feed 8", x.feed(8, -1L), 9);
    Check.refused("feed(0)", x, -4, () -> x.feed(0, 1));
    Check.refused("feed(least int)", x, -4, () -> x.feed(Integer.MIN_VALUE, 1));
    Check.refused("feed(9)", x, -6, () -> x.feed(9, 1));
    Check.refused("feed(greatest int)", x, -6, () -> x.feed(Integer.MAX_VALUE, 1));
    due("quiz at fault", x.quiz(), -1001);
    for (int i = 1; i <= 7; i++) x.feed(8, 0);
    due("feed up to 63", x.feed(7, 0), 63);
    Check.refused("feed beyond 64", x, -6, () -> x.feed(2, 0));
    due("feed up to 64", x.feed(1, 0), 64);
    Check.refused("feed a full tape", x, -6, () -> x.feed(1, 0));
    BeforeTheEnd y = new BeforeTheEnd();
    // "w0,9,3;" with a byte more that n leaves out: the lowest byte comes first.
    y.feed(7, 0x2a3b332c392c3077L);
    due("bytes behind n stay away", y.quiz(), 1);
    due("lowest first", y.word(1, 1), 9);
  }

  // Promise 3
  private static void quiz() {
    BeforeTheEnd x = new BeforeTheEnd();
    due("six", Check.quiz(x, TREE), 6);
    due("tape empty", x.count(5), 0);
    due("both sorts", Check.quiz(x, "w02,9,0;w7,1,9;ps9000:987654321;pe0100:5;"), 4);
    due("parent 02", x.word(7, 0), 2);
    due("parent in the same quiz", x.word(8, 0), 7);
    due("sure 000", x.player(0, 2), 0);
    due("all answers", x.player(0, 3), 1022);
    due("sure 100", x.player(1, 2), 100);
    due("64 bytes", Check.quiz(new BeforeTheEnd(),
        "w0,1,1;w0,1,1;w0,1,1;w0,1,1;w0,1,1;w0,1,1;w0,1,1;w00,1,1;w0,1,1;"), 9);
    due("64 bytes, and one lacks", Check.quiz(new BeforeTheEnd(),
        "w0,1,1;w0,1,1;w0,1,1;w0,1,1;w0,1,1;w0,1,1;w00,1,1;w00,1,1;w0,1,1"), -1064);
  }

  private static void fault(String text, int want) {
    BeforeTheEnd x = Check.with("w0,1,0;w1,1,7;pe01:7;");
    Check.feed(x, text);
    int tape = x.count(5);
    String before = Check.state(x).replaceFirst("^(\\d+ \\d+ \\d+ \\d+ \\d+ )" + tape + " ", "$10 ");
    due("fault of " + text, x.quiz(), want);
    Check.due("the state behind " + text, Check.state(x), before);
    for (int what = 11; what <= 16; what++) due("a fault is not counted", x.count(what), 0);
    due("a quiz behind a fault", Check.quiz(x, "w1,1,8;"), 1);
  }

  private static void quizFaults() {
    fault("", -1000);
    fault("x", -1000);
    fault(";", -1000);
    fault("w", -1001);
    fault("w,", -1001);
    fault("w0", -1002);
    fault("w012,1,1;", -1003);
    fault("w0,", -1003);
    fault("w0;", -1002);
    fault("w0,1,1", -1006);
    fault("w0,1,12;", -1006);
    fault("w0,11,1;", -1004);
    fault("w0,1,1;w", -1008);
    fault("w0,1,1;;", -1007);
    fault("w0,1,1; ", -1007);
    fault("w0,0,1;x", -1007);
    fault("p", -1001);
    fault("pz", -1001);
    fault("pE", -1001);
    fault("p\0", -1001);
    fault("pe", -1002);
    fault("pe1", -1003);
    fault("pe1:1;", -1003);
    fault("pe1,50:1;", -1003);
    fault("pe1050", -1006);
    fault("pe10500:1;", -1006);
    fault("pe1050:", -1007);
    fault("pe1050:0;", -1007);
    fault("pe1050:120;", -1009);
    fault("pe1050:1234567891;", -1016);
    fault("pe1050:1", -1008);
    fault("pe1050:1,", -1008);
    fault("w0,0,1;", -2000);
    fault("w3,1,1;", -2000);
    fault("w99,1,1;", -2000);
    fault("w2,1,1;", -2000);
    fault("w0,1,1;w3,1,1;", -2007);
    fault("w0,1,1;w4,1,1;w0,0,0;", -2007);
    fault("pe0101:1;", -2000);
    fault("pe0999:1;", -2000);
    fault("pe01:121;", -2000);
    fault("w0,1,1;pe01:99;", -2007);
    fault("pe01:1;pe01:1;pe01:1;pe01:1;", -2021);
    BeforeTheEnd x = new BeforeTheEnd();
    for (int i = 0; i < 22; i++) due("word", Check.quiz(x, "w0,1,1;"), 1);
    due("the 23rd and the 24th", Check.quiz(x, "w0,1,1;w0,1,1;"), -2007);
    due("nothing of it came", x.count(0), 23);
    due("the 23rd", Check.quiz(x, "w0,1,1;"), 1);
    due("no room", Check.quiz(x, "w0,1,1;"), -2000);
    due("24 words", x.count(0), 24);
    due("next ones", x.word(0, 4), 23);
  }

  // Promise 4
  private static void word() {
    BeforeTheEnd x = Check.with(TREE);
    int[][] want = {{0, 0, 0, 0, 2}, {0, 4, 0, 1, 2}, {0, 2, 0, 1, 2}, {1, 1, 1, 2, 0}, {1, 1, 2, 2, 0},
        {2, 6, 1, 2, 0}, {2, 3, 3, 2, 0}};
    for (int w = 0; w < want.length; w++) {
      for (int what = 0; what < 5; what++) due("word(" + w + ", " + what + ")", x.word(w, what), want[w][what]);
    }
    Check.refused("word(7, 9)", x, -1, () -> x.word(7, 9));
    Check.refused("word(-1, 0)", x, -1, () -> x.word(-1, 0));
    Check.refused("word(24, 0)", x, -1, () -> x.word(24, 0));
    Check.refused("word(1, 5)", x, -2, () -> x.word(1, 5));
    Check.refused("word(1, -1)", x, -2, () -> x.word(1, -1));
  }

  // Promise 5
  private static void player() {
    BeforeTheEnd x = Check.with("pe97:1;ps8006:12;pb7100:3;pl60:9;");
    int[][] want = {{0, 9, 7, 2, 0}, {1, 8, 6, 6, 0}, {2, 7, 100, 8, 0}, {3, 6, 0, 512, 0}};
    for (int p = 0; p < 4; p++) {
      for (int what = 0; what < 5; what++) due("player(" + p + ", " + what + ")", x.player(p, what), want[p][what]);
    }
    BeforeTheEnd y = Check.with(TREE, "pt01:1;pa01:1;");
    due("told", y.player(0, 0), 4);
    due("alone", y.player(1, 0), 5);
    y.setOf(0, 6);
    due("set", y.player(0, 4), 6);
    due("one alone tells none", y.player(1, 4), 0);
    Check.refused("player(2, 9)", y, -1, () -> y.player(2, 9));
    Check.refused("player(-1, 0)", y, -1, () -> y.player(-1, 0));
    Check.refused("player(4, 0)", x, -1, () -> x.player(4, 0));
    Check.refused("player(0, 5)", y, -2, () -> y.player(0, 5));
    Check.refused("player(0, -1)", y, -2, () -> y.player(0, -1));
  }

  // Promise 6
  private static void whole() {
    due("whole", Check.with(TREE).whole(), 1);
    due("open", Check.with(OPEN).whole(), 0);
    BeforeTheEnd x = Check.with("w0,1,0;");
    due("an open word", x.whole(), 0);
    Check.quiz(x, "w1,1,1;");
    due("closed", x.whole(), 1);
    Check.quiz(x, "w1,1,0;");
    due("open again", x.whole(), 0);
  }

  // Promise 7
  private static void left() {
    BeforeTheEnd x = Check.with(TREE);
    int[] want = {14, 6, 10, 2, 4, 2, 8};
    for (int w = 0; w < want.length; w++) due("left(" + w + ")", x.left(w), want[w]);
    BeforeTheEnd open = Check.with(OPEN);
    due("left of an open tree", open.left(0), 2);
    due("left of an open word", open.left(2), 0);
    Check.refused("left(7)", x, -1, () -> x.left(7));
    Check.refused("left(-1)", x, -1, () -> x.left(-1));
  }

  // Promise 8
  private static void chance() {
    BeforeTheEnd x = Check.with(TREE);
    Check.mean("1 at 0", x.chance(0, 1, 0), x.chance(0, 1, 1), 5, 9);
    Check.mean("2 at 0", x.chance(0, 2, 0), x.chance(0, 2, 1), 1, 3);
    Check.mean("3 at 2", x.chance(2, 3, 0), x.chance(2, 3, 1), 1, 3);
    Check.mean("1 at 3", x.chance(3, 1, 0), x.chance(3, 1, 1), 1, 1);
    Check.mean("9 at 0", x.chance(0, 9, 0), x.chance(0, 9, 1), 0, 1);
    BeforeTheEnd open = Check.with(OPEN);
    for (int word : new int[] {-1, 7, 24}) {
      Check.refusedLong("no word", x, -1, () -> x.chance(word, 1, 5));
    }
    for (int answer : new int[] {-1, 0, 10}) {
      Check.refusedLong("no answer", x, -1, () -> x.chance(0, answer, 5));
    }
    Check.refusedLong("part 2", open, -2, () -> open.chance(0, 1, 2));
    Check.refusedLong("part -1", x, -2, () -> x.chance(0, 1, -1));
    Check.refusedLong("open", open, -3, () -> open.chance(0, 1, 0));
  }

  // Promise 9
  private static void guess() {
    BeforeTheEnd x = Check.with(TREE, "pe01:123;pe01:23;pe01:9;");
    due("most likely", x.guess(0, 0), 1);
    due("the least of like ones", x.guess(0, 1), 1);
    due("of what it knows", x.guess(1, 0), 2);
    due("what is left", x.guess(1, 2), 3);
    due("at an end", x.guess(0, 6), 3);
    due("not at this end", x.guess(1, 3), 0);
    due("none", x.guess(2, 0), 0);
    BeforeTheEnd open = Check.with(OPEN, "pe01:1;");
    Check.refused("no player", open, -1, () -> open.guess(1, 0));
    Check.refused("no word", open, -1, () -> open.guess(0, 4));
    Check.refused("below", open, -1, () -> open.guess(-1, -1));
    Check.refused("open", open, -3, () -> open.guess(0, 0));
  }

  // Promise 10
  private static void points() {
    BeforeTheEnd x = new BeforeTheEnd();
    int[] first = {10, 5, 0, 1};
    int[] most = {20, 20, 5, 1};
    for (int i = 0; i < 4; i++) {
      int what = i;
      due("first", x.points(what, most[what]), first[what]);
      Check.refused("below", x, -4, () -> x.points(what, -1));
      Check.refused("above", x, -6, () -> x.points(what, most[what] + 1));
      due("greatest", x.points(what, 0), most[what]);
      due("least", x.points(what, first[what]), 0);
    }
    Check.refused("points(4, -1)", x, -2, () -> x.points(4, -1));
    Check.refused("points(-1, 99)", x, -2, () -> x.points(-1, 99));
  }

  // Promise 11
  private static void setOf() {
    BeforeTheEnd x = Check.with(TREE, "pt01:1;pa01:1;pe01:1;");
    due("empty at first", x.setOf(0, 127), 0);
    due("all words", x.setOf(0, 1), 127);
    due("word 0", x.setOf(0, 0), 1);
    Check.refused("no player", x, -1, () -> x.setOf(3, 0));
    Check.refused("player -1", x, -1, () -> x.setOf(-1, 0));
    Check.refused("word 7", x, -1, () -> x.setOf(0, 128));
    Check.refused("sign", x, -1, () -> x.setOf(0, Integer.MIN_VALUE));
    Check.refused("word 7 of one alone", x, -1, () -> x.setOf(1, 128));
    Check.refused("one alone", x, -2, () -> x.setOf(1, 2));
    Check.refused("ends", x, -2, () -> x.setOf(2, 2));
    BeforeTheEnd open = Check.with("pt01:1;");
    due("of a tree that is not whole", open.setOf(0, 1), 0);
  }

  // Promise 12
  private static void pressBits(String what, BeforeTheEnd x, int player, int want) {
    int bits = 0;
    for (int w = 0; w < x.count(0); w++) bits |= x.presses(player, w) << w;
    due(what, bits, want);
  }

  private static void presses() {
    // WORD 1: ANSWER 1 by 4/5, 2 by 1/5; WORD 2: ANSWER 1 by 3/5, 2 by 2/5.
    String tree = "w0,1,0;w0,1,0;w1,4,1;w1,1,2;w2,3,1;w2,2,2;";
    BeforeTheEnd x = Check.with(tree, "pe00:12;ps080:12;ps081:12;ps060:12;");
    pressBits("at ends alone", x, 0, 0b1111000);
    pressBits("80 hundredths just so", x, 1, 0b1111010);
    pressBits("81 hundredths", x, 2, 0b1111000);
    pressBits("60 hundredths", x, 3, 0b1111110);
    BeforeTheEnd y = Check.with(tree, "pb0100:12;pb010:2;pl0100:1;pl080:1;");
    pressBits("bold 80", y, 0, 0b1111010);
    pressBits("bold 0 with a guess", y, 1, 0b1010110);
    BeforeTheEnd rare = Check.with("w0,1,0;w1,9,0;w1,1,9;w2,9,9;w2,1,0;w5,9,9;w5,1,1;", "pb010:1;");
    pressBits("bold 0 with a guess of less than a hundredth", rare, 0, 0b10100110);
    pressBits("learn before a wrong one", y, 2, 0b0101000);
    pressBits("learn 80", y, 3, 0b0101010);
    BeforeTheEnd z = Check.with(tree, "pt00:1;pa0100:12;pa00:2;");
    pressBits("told none", z, 0, 0);
    z.setOf(0, 0b0010011);
    pressBits("told, with a guess, not at word 0", z, 0, 0b0000010);
    pressBits("alone", z, 1, z.alone(1));
    pressBits("alone too", z, 2, z.alone(2));
    BeforeTheEnd open = Check.with(OPEN, "pe01:1;");
    Check.refused("no player", open, -1, () -> open.presses(1, 0));
    Check.refused("no word", open, -1, () -> open.presses(0, 4));
    Check.refused("open", open, -3, () -> open.presses(0, 0));
  }

  // Promise 13
  private static void runs(String what, BeforeTheEnd x, int end, int winner, int word, int wrong) {
    due(what + ": who wins", x.run(end, 0), winner);
    due(what + ": at which word", x.run(end, 1), word);
    due(what + ": how many wrong", x.run(end, 2), wrong);
  }

  private static void run() {
    BeforeTheEnd x = Check.with(TREE, "pe20:12;pe10:1;pe10:12;");
    runs("the least hand, the least number", x, 3, 1, 3, 0);
    runs("the hand of those who know", x, 4, 2, 4, 0);
    runs("none", x, 6, -9, -9, 0);
    BeforeTheEnd y = Check.with(TREE, "ps950:12;pe00:2;");
    runs("the first to press, not the quicker one", y, 3, 0, 1, 0);
    runs("wrong, then another", y, 4, 1, 1, 1);
    Check.refused("no end", y, -1, () -> y.run(1, 9));
    Check.refused("word 0", y, -1, () -> y.run(0, 0));
    Check.refused("no word", y, -1, () -> y.run(7, 0));
    Check.refused("word -1", y, -1, () -> y.run(-1, 0));
    Check.refused("what 3", y, -2, () -> y.run(3, 3));
    Check.refused("what -1", y, -2, () -> y.run(3, -1));
    BeforeTheEnd open = Check.with(OPEN);
    Check.refused("what of an open tree", open, -2, () -> open.run(3, 3));
    Check.refused("open", open, -3, () -> open.run(3, 0));
  }

  private static void runBoth() {
    // One long question: the three press at WORDS 1, 2 and 2.
    String tree = "w0,1,0;w1,1,0;w2,1,0;w3,1,1;w3,9,2;";
    BeforeTheEnd x = Check.with(tree, "pt30:2;pt20:2;pt10:2;pe00:1;");
    x.setOf(0, 2);
    x.setOf(1, 6);
    x.setOf(2, 4);
    runs("three wrong, one at a word", x, 4, 3, 1, 2);
    due("the quickest at word 1 alone is out", x.worth(0, 0), 0);
    x.points(3, 0);
    runs("over with one wrong", x, 4, -9, 1, 1);
    runs("right at once", x, 5, 1, 1, 0);
    // LEARN presses with half of SURE once another one was wrong: 10 hundredths of ANSWER 1 are enough then.
    BeforeTheEnd y = Check.with(tree, "pl021:1;pt90:2;");
    y.setOf(1, 2);
    runs("learn, of 10.5 cut to 10", y, 4, 0, 1, 1);
    y.points(2, 1);
    due("learn answers at word 2", y.worth(0, 0), 6);
    due("learn answers at word 2, by tenths", y.worth(0, 1), 5);
    y.points(3, 0);
    due("learn has nothing", y.worth(0, 0), 0);
    BeforeTheEnd z = Check.with(tree, "pl022:1;pt90:2;");
    z.setOf(1, 2);
    z.points(2, 1);
    due("11 hundredths are too much", z.worth(0, 0), 1);
  }

  // Promises 14, 15
  private static void winsAndWorth() {
    BeforeTheEnd x = Check.with(TREE, "ps950:12;pe00:23;");
    Check.mean("wins 0", x.wins(0, 0), x.wins(0, 1), 5, 9);
    BeforeTheEnd y = Check.with("w0,4,0;w0,2,0;w1,1,1;w1,1,2;w2,3,3;w2,6,1;", "ps960:13;pe10:23;");
    Check.mean("wins of one who presses at a half", y.wins(0, 0), y.wins(0, 1), 5, 9);
    Check.mean("wins 1", y.wins(1, 0), y.wins(1, 1), 4, 9);
    Check.mean("worth 0", y.worth(0, 0), y.worth(0, 1), 5, 1);
    Check.mean("worth 1", y.worth(1, 0), y.worth(1, 1), 40, 9);
    y.points(2, 3);
    Check.mean("worth with early", y.worth(0, 0), y.worth(0, 1), 17, 3);
    BeforeTheEnd z = Check.with(TREE, "pt00:2;");
    z.setOf(0, 6);
    z.points(1, 20);
    Check.mean("below 0", z.worth(0, 0), z.worth(0, 1), -10, 3);
    Check.mean("a third", z.wins(0, 0), z.wins(0, 1), 1, 3);
    BeforeTheEnd open = Check.with(OPEN, "pe01:1;");
    Check.refusedLong("wins: no player", open, -1, () -> open.wins(1, 2));
    Check.refusedLong("wins: player -1", open, -1, () -> open.wins(-1, 0));
    Check.refusedLong("wins: part", open, -2, () -> open.wins(0, 2));
    Check.refusedLong("wins: open", open, -3, () -> open.wins(0, 1));
    Check.refusedLong("worth: no player", open, -1, () -> open.worth(1, 2));
    Check.refusedLong("worth: part", open, -2, () -> open.worth(0, -1));
    Check.refusedLong("worth: open", open, -3, () -> open.worth(0, 0));
  }

  // Promise 16
  private static void nobody() {
    BeforeTheEnd x = Check.with(TREE);
    Check.mean("without players", x.nobody(0), x.nobody(1), 1, 1);
    Check.quiz(x, "pe00:1;");
    Check.mean("one knows 1", x.nobody(0), x.nobody(1), 4, 9);
    Check.quiz(x, "pe00:23;");
    Check.mean("all is known", x.nobody(0), x.nobody(1), 0, 1);
    BeforeTheEnd open = Check.with(OPEN);
    Check.refusedLong("part", open, -2, () -> open.nobody(2));
    Check.refusedLong("open", open, -3, () -> open.nobody(0));
  }

  // Promise 17
  private static void dull() {
    BeforeTheEnd x = Check.with(TREE, "pe00:123;");
    Check.mean("all wait", x.dull(0), x.dull(1), 1, 1);
    Check.quiz(x, "ps060:1;");
    Check.mean("one presses at word 2", x.dull(0), x.dull(1), 2, 3);
    Check.quiz(x, "pt90:3;");
    x.setOf(2, 2);
    Check.mean("told a word without a guess", x.dull(0), x.dull(1), 2, 3);
    x.setOf(2, 5);
    Check.mean("none presses at word 0", x.dull(0), x.dull(1), 2, 3);
    Check.quiz(x, "ps050:12;");
    Check.mean("none waits", x.dull(0), x.dull(1), 0, 1);
    BeforeTheEnd one = Check.with("w0,1,1;w0,1,2;", "pe00:12;");
    Check.mean("ends of one word", one.dull(0), one.dull(1), 1, 1);
    pressBits("ends of one word", one, 0, 6);
    BeforeTheEnd open = Check.with(OPEN);
    Check.refusedLong("part", open, -2, () -> open.dull(-1));
    Check.refusedLong("open", open, -3, () -> open.dull(1));
  }

  // Promise 18
  private static void value() {
    BeforeTheEnd x = Check.with(TREE, "pe00:12;pe00:9;");
    x.points(1, 0);
    x.points(2, 2);
    // WORD 1: PRESS 1/2 * 12 = 6, WAIT 10. WORD 2: PRESS 2/3 * 12 = 8, WAIT 20/3.
    Check.mean("waiting", x.value(0, 1, 0), x.value(0, 1, 1), 10, 1);
    Check.mean("pressing", x.value(0, 2, 0), x.value(0, 2, 1), 8, 1);
    Check.mean("word 0", x.value(0, 0, 0), x.value(0, 0, 1), 28, 3);
    Check.mean("an end", x.value(0, 3, 0), x.value(0, 3, 1), 10, 1);
    Check.mean("an end of another answer", x.value(0, 6, 0), x.value(0, 6, 1), 0, 1);
    Check.mean("one without a guess", x.value(1, 0, 0), x.value(1, 0, 1), 0, 1);
    x.points(1, 5);
    Check.mean("with wrong ones", x.value(0, 2, 0), x.value(0, 2, 1), 20, 3);
    BeforeTheEnd open = Check.with(OPEN, "pe01:1;");
    Check.refusedLong("no player", open, -1, () -> open.value(1, 0, 2));
    Check.refusedLong("no word", open, -1, () -> open.value(0, 4, 2));
    Check.refusedLong("part", open, -2, () -> open.value(0, 0, 2));
    Check.refusedLong("open", open, -3, () -> open.value(0, 0, 0));
  }

  // Promise 19
  private static void alone() {
    BeforeTheEnd x = Check.with(TREE, "pe00:12;pa00:12;pe00:9;");
    due("at the ends it knows", x.alone(0), 0b0111000);
    x.points(1, 0);
    x.points(2, 2);
    due("and where pressing is better", x.alone(0), 0b0111100);
    due("of any kind", x.alone(1), x.alone(0));
    due("none", x.alone(2), 0);
    x.points(0, 0);
    x.points(2, 0);
    due("where it is just as good, but not at word 0", x.alone(0), 0b0111110);
    BeforeTheEnd open = Check.with(OPEN, "pe01:1;");
    Check.refused("no player", open, -1, () -> open.alone(1));
    Check.refused("player -1", open, -1, () -> open.alone(-1));
    Check.refused("open", open, -3, () -> open.alone(0));
  }

  // Promise 20
  private static void reply() {
    BeforeTheEnd x = Check.with(TREE, "pe20:12;pe10:1;");
    due("none told", x.reply(0, 0), 0);
    // Ahead of the other one at WORD 2: 1/3 * (2/3 * 10 - 1/3 * 5); END 4 alone brings 10/3.
    due("one word", x.reply(0, 1), 0b0010000);
    due("two words", x.reply(0, 2), 0b0010100);
    due("its kind stays", x.player(0, 0), 0);
    x.points(0, 0);
    due("of fewest", x.reply(0, 2), 0);
    BeforeTheEnd y = Check.with("w0,1,1;w0,1,1;w0,1,0;w3,1,1;w3,1,1;", "pt00:1;");
    due("the least as bits, of all with as much", y.reply(0, 1), 0b0000010);
    due("and so of two", y.reply(0, 2), 0b0000110);
    y.setOf(0, 32);
    due("the set stays", y.reply(0, 0) + y.player(0, 4), 32);
    BeforeTheEnd open = Check.with(OPEN, "pe01:1;");
    Check.refused("no player", open, -1, () -> open.reply(1, -1));
    Check.refused("below", open, -4, () -> open.reply(0, -1));
    Check.refused("above", open, -6, () -> open.reply(0, 3));
    Check.refused("open", open, -3, () -> open.reply(0, 2));
  }

  // Promise 21
  private static void rest() {
    BeforeTheEnd x = Check.with(TREE, "pt10:12;pt20:12;pe00:1;");
    int rounds = x.rest(0, 1);
    due("the first round changes, the second does not", rounds, 2);
    due("a rests", x.player(0, 4), x.reply(0, 2));
    due("b rests", x.player(1, 4), x.reply(1, 2));
    due("at rest already", x.rest(0, 1), 1);
    due("none has anything to tell", Check.with("w0,1,1;", "pt10:2;pt10:3;").rest(0, 1), 1);
    restRounds("the slower one leaves it to the other in round 2", "w0,1,0;w1,3,3;", "pt20:3;pt10:3;", 3, 0, 2);
    restRounds("one each", "w0,1,0;w1,1,2;", "pt20:1;pt10:2;", 2, 0, 2);
    // Pressing at WORD 1 brings 5, at END 4 20/3: each goes ahead of the other, till the slower one has nothing.
    restRounds("no rest", "w0,1,0;w1,1,0;w2,1,2;w1,2,1;", "pt20:1;pt10:1;", -9, 2, 2);
    Check.refused("one twice", x, -1, () -> x.rest(0, 0));
    Check.refused("no a", x, -1, () -> x.rest(3, 2));
    Check.refused("no b", x, -1, () -> x.rest(2, -1));
    Check.refused("b of another kind", x, -2, () -> x.rest(0, 2));
    Check.refused("a of another kind", x, -2, () -> x.rest(2, 1));
    BeforeTheEnd open = Check.with(OPEN, "pt01:1;pe01:1;pt01:2;");
    Check.refused("another kind in an open tree", open, -2, () -> open.rest(0, 1));
    Check.refused("open", open, -3, () -> open.rest(0, 2));
  }

  private static void restRounds(String what, String tree, String players, int want, int setA, int setB) {
    BeforeTheEnd x = Check.with(tree, players);
    due(what, x.rest(0, 1), want);
    due(what + ": a", x.player(0, 4), setA);
    due(what + ": b", x.player(1, 4), setB);
  }

  // Promise 22
  private static void law() {
    BeforeTheEnd x = Check.with(TREE, "pa00:12;");
    x.points(2, 2);
    // It waits at WORD 2 once 2/3 * 12 - 1/3 * WRONG is less than 20/3: from 5 on.
    due("dull always", x.law(100), 5);
    due("two thirds are not 67 hundredths", x.law(67), 5);
    due("but 66", x.law(66), 0);
    due("nothing", x.law(0), 0);
    due("wrong is as it was", x.points(1, 5), 5);
    BeforeTheEnd z = Check.with("w0,1,0;w1,9,1;w1,9,1;w1,1,1;w1,5,2;", "pa00:1;");
    z.points(2, 5);
    // It waits once 19/24 * 5 is less than 5/24 * WRONG.
    due("the greatest wrong", z.law(100), 20);
    BeforeTheEnd u = Check.with("w0,1,0;w1,8,1;w1,2,2;", "pa00:1;");
    u.points(2, 5);
    due("as good at the greatest wrong", u.law(100), -9);
    BeforeTheEnd y = Check.with(TREE, "ps00:12;");
    due("never", y.law(1), -9);
    due("wrong is as it was behind never", y.points(1, 5), 5);
    BeforeTheEnd open = Check.with(OPEN);
    Check.refused("below", open, -4, () -> open.law(-1));
    Check.refused("above", open, -6, () -> open.law(101));
    Check.refused("open", open, -3, () -> open.law(100));
  }

  // Promise 23
  private static void mostEarly() {
    BeforeTheEnd x = Check.with(TREE, "pa00:12;pe00:12;");
    // At WORD 2 one ALONE presses from EARLY 3 on (2/3 * (10 + EARLY) - 5/3 against 20/3), and has less then.
    due("the least of like ones", x.mostEarly(0), 0);
    due("early is as it was", x.points(2, 5), 0);
    due("the least of like ones too", x.mostEarly(1), 0);
    due("early is as it was again", x.points(2, 5), 5);
    BeforeTheEnd y = Check.with(TREE, "pa50:1;pe00:12;");
    due("pressing ahead of a quicker one at both words", y.mostEarly(0), 5);
    y.points(1, 6);
    due("pressing ahead of a quicker one at word 2 alone", y.mostEarly(0), 3);
    BeforeTheEnd open = Check.with(OPEN, "pe01:1;");
    Check.refused("no player", open, -1, () -> open.mostEarly(1));
    Check.refused("open", open, -3, () -> open.mostEarly(0));
  }

  // Promise 24
  private static void silent() {
    BeforeTheEnd x = Check.with(TREE, "ps050:9;pb080:9;pe00:1;pl050:1;");
    due("word 0", x.silent(0, 0), 0);
    due("at word 1", x.silent(0, 1), 6);
    due("at word 2", x.silent(0, 2), 2);
    due("on the way to end 3", x.silent(0, 3), 6);
    due("at end 6 its answer", x.silent(0, 6), 10);
    due("bold by 20 less", x.silent(1, 2), 2);
    due("bold by 20 less, at word 1", x.silent(1, 1), 0);
    Check.refused("no player", x, -1, () -> x.silent(4, 0));
    Check.refused("no word", x, -1, () -> x.silent(2, 7));
    Check.refused("ends", x, -2, () -> x.silent(2, 0));
    Check.refused("learn", x, -2, () -> x.silent(3, 0));
    BeforeTheEnd open = Check.with(OPEN, "pt01:1;ps01:1;");
    Check.refused("told", open, -2, () -> open.silent(0, 0));
    Check.refused("open", open, -3, () -> open.silent(1, 0));
  }

  // Promise 25
  private static void partners() {
    BeforeTheEnd x = Check.with(TREE, "pe00:1;pe00:2;pe00:3;");
    due("greater", x.partners(1, 0, 0), 0);
    due("greater by number", x.partners(0, 1, 0), 0);
    due("like ones", x.partners(0, 1, 1), 0);
    due("like ones by order", x.partners(1, 0, 1), 1);
    due("one has a guess", x.partners(1, 2, 6), 2);
    due("neither", x.partners(1, 2, 5), -9);
    BeforeTheEnd open = Check.with(OPEN, "pt01:1;ps01:1;");
    Check.refused("one twice", open, -1, () -> open.partners(1, 1, 0));
    Check.refused("no a", open, -1, () -> open.partners(2, 1, 0));
    Check.refused("no b", open, -1, () -> open.partners(1, -1, 0));
    Check.refused("no word", open, -1, () -> open.partners(1, 0, 4));
    Check.refused("open", open, -3, () -> open.partners(1, 0, 0));
  }

  // Promise 26
  private static void fact() {
    BeforeTheEnd x = new BeforeTheEnd();
    due("none in it", x.fact(0), 0);
    due("all in it", x.fact(1022), 1);
    for (int bits : new int[] {1, 3, 1024, 1023, -2, Integer.MIN_VALUE}) {
      Check.refused("fact(" + bits + ")", x, -1, () -> x.fact(bits));
    }
    for (int i = 2; i < 5; i++) due("number", x.fact(2), i);
    Check.refused("bits of a sixth", x, -1, () -> x.fact(1));
    Check.refused("a sixth", x, -6, () -> x.fact(2));
  }

  private static BeforeTheEnd withFacts(int... facts) {
    BeforeTheEnd x = new BeforeTheEnd();
    for (int bits : facts) x.fact(bits);
    return x;
  }

  // Promise 27
  private static void had() {
    BeforeTheEnd x = withFacts(6, 12, 8, 1022);
    due("behind none", x.had(0, 0), 6);
    due("0 leaves two", x.had(1, 0), 6);
    due("0, 1", x.had(2, 10), 2);
    due("0, 1, 2 had already", x.had(3, 210), 2);
    due("2 alone", x.had(1, 2), 1);
    due("3, 0, 1", x.had(3, 103), 3);
    due("0, 2 leaves none", x.had(2, 20), 6);
    due("lowest first, 0 behind", x.had(2, 1), 2);
    Check.refused("n below 0", x, -4, () -> x.had(-1, -1));
    Check.refused("n above 5", x, -6, () -> x.had(6, -1));
    Check.refused("order below 0", x, -1, () -> x.had(0, -1));
    Check.refused("none such", x, -1, () -> x.had(1, 4));
    Check.refused("twice", x, -1, () -> x.had(2, 0));
    Check.refused("n above the facts", x, -1, () -> x.had(5, 3210));
  }

  private static void extreme(String what, BeforeTheEnd x, boolean latest, int had, int... order) {
    due(what + ": had", latest ? x.late(-1) : x.soon(-1), had);
    for (int i = 0; i < order.length; i++) due(what + ": " + i, latest ? x.late(i) : x.soon(i), order[i]);
    due(what + ": behind", latest ? x.late(order.length) : x.soon(order.length), -9);
    due(what + ": greatest int", latest ? x.late(Integer.MAX_VALUE) : x.soon(Integer.MAX_VALUE), -9);
  }

  // Promise 28
  private static void late() {
    extreme("no facts", new BeforeTheEnd(), true, 6);
    extreme("one", withFacts(4), true, 1, 0);
    extreme("the wide ones first", withFacts(2, 6, 1022), true, 3, 1, 2, 0);
    extreme("never is latest", withFacts(2, 12), true, 6, 1, 0);
    extreme("five", withFacts(2, 6, 14, 30, 62), true, 5, 1, 2, 3, 4, 0);
    BeforeTheEnd x = withFacts(2);
    Check.refused("below", x, -4, () -> x.late(-2));
  }

  // Promise 29
  private static void soon() {
    extreme("no facts", new BeforeTheEnd(), false, 6);
    extreme("never", withFacts(6, 14), false, 6, 0, 1);
    extreme("the narrow one first", withFacts(6, 14, 2), false, 1, 2, 0, 1);
    extreme("two", withFacts(1022, 6, 12, 14), false, 2, 1, 2, 0, 3);
    extreme("five", withFacts(62, 30, 14, 6, 2), false, 1, 4, 0, 1, 2, 3);
    BeforeTheEnd x = withFacts(2);
    Check.refused("below", x, -4, () -> x.soon(-2));
    Check.refused("far below", x, -4, () -> x.soon(Integer.MIN_VALUE));
  }

  // Promise 30
  private static void evening() {
    // Two ENDS by 1 and 2 of 3; a chain of two, at each of which one DRAW is made.
    BeforeTheEnd x = Check.with("w0,1,0;w1,1,1;w1,2,2;", "pe00:2;pt90:1;");
    x.setOf(1, 2);
    int z = 77;
    int[] sums = new int[2];
    for (int n = 1; n <= 20; n++) {
      z = z * 1664525 + 1013904223;
      z = z * 1664525 + 1013904223;
      boolean second = (z & 0x7fffffff) / 256 % 3 >= 1;
      sums[0] += second ? 10 : 0;
      sums[1] += second ? -5 : 10;
      due("evening of " + n, x.evening(n, 77, 0), sums[0]);
      due("evening of " + n + " of the other", x.evening(n, 77, 1), sums[1]);
    }
    BeforeTheEnd open = Check.with(OPEN, "pe01:1;");
    Check.refused("no player", open, -1, 1000000001, () -> open.evening(0, 0, 1));
    Check.refused("below", open, -4, 1000000004, () -> open.evening(0, 0, 0));
    Check.refused("above", open, -6, 1000000006, () -> open.evening(21, 0, 0));
    Check.refused("open", open, -3, 1000000003, () -> open.evening(20, 0, 0));
  }

  // Promise 31
  private static void row() {
    BeforeTheEnd x = new BeforeTheEnd();
    Check.refused("below", x, -4, () -> x.row(-1));
    Check.refused("above", x, -6, () -> x.row(10));
    for (int i = 1; i <= 20; i++) due("row", x.row(i % 10), i);
    Check.refused("a full row", x, -6, () -> x.row(0));
    Check.refused("below, a full row", x, -4, () -> x.row(-1));
    due("bytes", x.count(4), 20);
  }

  // Promise 32
  private static void judge() {
    BeforeTheEnd x = Check.with("w0,1,0;w1,1,1;w1,2,2;", "pe00:2;");
    int z = 77;
    for (int i = 0; i < 6; i++) {
      z = z * 1664525 + 1013904223;
      z = z * 1664525 + 1013904223;
      x.row((z & 0x7fffffff) / 256 % 3 >= 1 ? 0 : 9);
    }
    due("all so", x.judge(77), -9);
    due("the row has none", x.count(4), 0);
    due("an empty row", x.judge(77), -9);
    z = 77;
    for (int i = 0; i < 6; i++) {
      z = z * 1664525 + 1013904223;
      z = z * 1664525 + 1013904223;
      boolean first = (z & 0x7fffffff) / 256 % 3 >= 1;
      x.row(first == (i < 4) ? 0 : 9);
    }
    due("the first that is not so", x.judge(77), 4);
    due("the row has none again", x.count(4), 0);
    BeforeTheEnd open = Check.with(OPEN);
    open.row(9);
    Check.refused("open", open, -3, () -> open.judge(0));
    due("it stays", open.count(4), 1);
  }

  // Promise 33
  private static void image() {
    BeforeTheEnd x = new BeforeTheEnd();
    due("word 0 alone", x.image(), 1);
    Check.quiz(x, TREE);
    String before = Check.state(x);
    due("seven", x.image(), 7);
    Check.due("taking it changes nothing", Check.state(x), before);
    Check.quiz(x, "w0,1,1;");
    x.on();
    due("the last one counts", x.count(0), 7);
  }

  // Promise 34
  private static void on() {
    BeforeTheEnd x = Check.with(TREE, "pt00:1;pe00:2;pt00:3;");
    Check.refused("none was taken", x, -3, x::on);
    x.setOf(0, 6);
    x.setOf(2, 2);
    x.fact(6);
    x.points(2, 4);
    x.image();
    String then = Check.state(x);
    Check.quiz(x, "w0,9,0;w7,1,9;w7,2,8;ps00:123456789;");
    x.setOf(0, 256);
    x.setOf(2, 0);
    x.fact(12);
    for (int what = 0; what < 4; what++) x.points(what, 0);
    x.feed(2, 0x3077);
    x.row(3);
    x.word(99, 0);
    due("on", x.on(), 7);
    due("tape", x.count(5), 2);
    due("row", x.count(4), 1);
    due("refusals", x.count(11), 1);
    due("state refusals", x.count(13), 1);
    x.quiz();
    x.judge(0);
    Check.due("all is as then", Check.state(x), then);
    Check.quiz(x, "w0,1,5;pa00:5;");
    due("other words", x.word(7, 2), 5);
    due("other players", x.player(3, 0), 5);
    due("other facts", x.fact(1022), 1);
    due("on again", x.on(), 7);
    Check.due("all is as then again", Check.state(x), then);
    BeforeTheEnd empty = new BeforeTheEnd();
    empty.image();
    Check.quiz(empty, TREE);
    due("whole", empty.whole(), 1);
    due("word 0 alone", empty.on(), 1);
    due("not whole", empty.whole(), 0);
    due("nothing left", empty.left(0), 0);
  }

  // Promise 35
  private static void count() {
    BeforeTheEnd x = Check.with(TREE, "pt00:1;pe00:2;");
    x.fact(2);
    x.row(1);
    x.row(1);
    x.feed(3, 0);
    due("words", x.count(0), 7);
    due("players", x.count(1), 2);
    due("ends", x.count(2), 4);
    due("facts", x.count(3), 1);
    due("row", x.count(4), 2);
    due("tape", x.count(5), 3);
    x.word(-1, 0);
    x.wins(0, 2);
    x.on();
    x.row(-1);
    x.row(10);
    x.evening(1, 1, 9);
    due("-1", x.count(11), 2);
    due("-2", x.count(12), 1);
    due("-3", x.count(13), 1);
    due("-4", x.count(14), 1);
    due("-5", x.count(15), 0);
    due("-6", x.count(16), 1);
    for (int what : new int[] {-1, 6, 7, 8, 9, 10, 17, Integer.MIN_VALUE, Integer.MAX_VALUE}) {
      due("count(" + what + ")", x.count(what), -9);
    }
    due("another what is not refused", x.count(12), 1);
  }
}
