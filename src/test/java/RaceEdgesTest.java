/** The edges of POINTS, PLAYERS, RUNS, REPLIES and LAWS (promises 10 to 25). */
public final class RaceEdgesTest {
  // ANSWER 1 has a CHANCE of 1/1000 at WORD 1, 1/100 at 2, 1/10 at 4, and 1 at END 6; 9 has 899/1000, 99/100, 9/10.
  private static final String RARE = "w0,1,0;w1,1,0;w1,8,9;w2,1,0;w2,9,9;w4,1,1;w4,9,9;w1,1,8;";
  // Three WORDS in a chain, of which the last one is END 3.
  private static final String CHAIN = "w0,1,0;w1,1,0;w2,1,1;";
  // Four WORDS in a chain, behind them END 5 with ANSWER 1 by 1/10, END 6 with ANSWER 2.
  private static final String LONG = "w0,1,0;w1,1,0;w2,1,0;w3,1,0;w4,1,1;w4,9,2;";
  // ANSWER 1 by 1/3 at END 2, ANSWER 2 at END 3.
  private static final String THIRD = "w0,1,0;w1,1,1;w1,2,2;";

  private RaceEdgesTest() {
  }

  public static void main(String[] args) {
    points();
    setOf();
    nonePressesAtWordZero();
    nonePressesWithoutGuess();
    endsAlone();
    sure();
    bold();
    learn();
    told();
    aloneFollowsPoints();
    noPlayers();
    hands();
    oneAnswersAtAWord();
    fourWrong();
    both();
    early();
    winsOfNoneAndAll();
    worthFromLeastToGreatest();
    nobodyAndDull();
    value();
    alone();
    replyOfNone();
    replyOfOneAndTwo();
    replyOfSeveral();
    rest();
    restOfTenRounds();
    law();
    mostEarly();
    silentSure();
    silentBold();
    partners();
    Check.exit("RaceEdgesTest");
  }

  private static void due(String what, long got, long want) {
    Check.due(what, got, want);
  }

  private static void wins(String what, BeforeTheEnd x, int player, long above, long below) {
    Check.mean(what, x.wins(player, 0), x.wins(player, 1), above, below);
  }

  private static void worth(String what, BeforeTheEnd x, int player, long above, long below) {
    Check.mean(what, x.worth(player, 0), x.worth(player, 1), above, below);
  }

  private static void value(String what, BeforeTheEnd x, int word, long above, long below) {
    Check.mean(what, x.value(0, word, 0), x.value(0, word, 1), above, below);
  }

  private static void runs(String what, BeforeTheEnd x, int end, int winner, int word, int wrong) {
    due(what + ": who WINS", x.run(end, 0), winner);
    due(what + ": at which WORD", x.run(end, 1), word);
    due(what + ": how many WRONG", x.run(end, 2), wrong);
  }

  /** Where it presses, as bits. */
  private static int pressed(BeforeTheEnd x, int player) {
    int bits = 0;
    for (int w = 0; w < x.count(0); w++) bits |= x.presses(player, w) << w;
    return bits;
  }

  private static BeforeTheEnd withPoints(BeforeTheEnd x, int right, int wrong, int early, int both) {
    x.points(0, right);
    x.points(1, wrong);
    x.points(2, early);
    x.points(3, both);
    return x;
  }

  private static BeforeTheEnd longest() {
    BeforeTheEnd x = new BeforeTheEnd();
    for (int w = 0; w < 22; w++) Check.quiz(x, "w" + w + ",1,0;");
    Check.quiz(x, "w22,1,5;pt00:5;pe00:5;");
    return x;
  }

  // RIGHT (0 .. 20; 10), WRONG (0 .. 20; 5), EARLY (0 .. 5; 0), BOTH (0, 1; 1): what it was.
  private static void points() {
    int[] first = {10, 5, 0, 1};
    int[] most = {20, 20, 5, 1};
    for (int what = 0; what < 4; what++) {
      BeforeTheEnd x = new BeforeTheEnd();
      int was = first[what];
      for (int v = 0; v <= most[what]; v++) {
        due("what " + what + " was", x.points(what, v), was);
        was = v;
      }
      due("the greatest", x.points(what, 0), most[what]);
      for (int other = 0; other < 4; other++) {
        if (other != what) due("another one", x.points(other, 0), first[other]);
      }
    }
  }

  private static void setOf() {
    BeforeTheEnd x = longest();
    int all = (1 << 24) - 1;
    due("of a new one", x.setOf(0, all), 0);
    due("of all 24 WORDS", x.setOf(0, 1 << 23), all);
    due("of WORD 23", x.setOf(0, 1), 1 << 23);
    due("of WORD 0", x.setOf(0, 0), 1);
    due("of none", x.player(0, 4), 0);
    BeforeTheEnd y = Check.with("pt00:1;pt00:1;");
    due("of WORD 0 alone", y.setOf(1, 1), 0);
    due("of WORD 0 alone, told", y.player(1, 4), 1);
    due("the other one's", y.player(0, 4), 0);
    BeforeTheEnd z = Check.with("w0,1,0;", "pt00:1;");
    z.setOf(0, 3);
    Check.quiz(z, "w1,1,1;");
    due("more WORDS do not come into it", z.player(0, 4), 3);
    due("they may", z.setOf(0, 7), 3);
  }

  private static void nonePressesAtWordZero() {
    for (char kind : "esblta".toCharArray()) {
      BeforeTheEnd x = withPoints(Check.with(CHAIN, "p" + kind + "00:1;"), 10, 0, 5, 1);
      if (kind == 't') x.setOf(0, 15);
      due("at WORD 0, KIND " + kind, x.presses(0, 0), 0);
      due("at WORD 1, KIND " + kind, x.presses(0, 1), kind == 'e' ? 0 : 1);
      due("at the END, KIND " + kind, x.presses(0, 3), 1);
      runs("KIND " + kind, x, 3, 0, kind == 'e' ? 3 : 1, 0);
    }
  }

  private static void nonePressesWithoutGuess() {
    for (char kind : "esblta".toCharArray()) {
      BeforeTheEnd x = withPoints(Check.with(THIRD, "p" + kind + "00:3;p" + kind + "00:2;"), 10, 0, 5, 1);
      if (kind == 't') {
        x.setOf(0, 15);
        x.setOf(1, 15);
      }
      due("KIND " + kind + " knows none", pressed(x, 0), 0);
      due("KIND " + kind + " not at the END of another", pressed(x, 1), kind == 'e' ? 8 : 10);
    }
  }

  private static void endsAlone() {
    BeforeTheEnd x = Check.with(CHAIN, "pe00:1;pe0100:1;");
    due("not at a sure WORD", pressed(x, 0), 8);
    due("with SURE 100", pressed(x, 1), 8);
  }

  private static int pressedInRare(String player) {
    return pressed(Check.with(RARE, player + ":1;"), 0);
  }

  // Where the CHANCE of its GUESS is SURE hundredths or more.
  private static void sure() {
    for (String kind : new String[] {"ps0", "pl0"}) {
      due(kind + " 0", pressedInRare(kind + "0"), 86);
      due(kind + " 1 at a hundredth", pressedInRare(kind + "1"), 84);
      due(kind + " 2", pressedInRare(kind + "2"), 80);
      due(kind + " 10 at a tenth", pressedInRare(kind + "10"), 80);
      due(kind + " 11", pressedInRare(kind + "11"), 64);
      due(kind + " 100", pressedInRare(kind + "100"), 64);
      due(kind + " 100 at a sure WORD", pressed(Check.with(CHAIN, kind + "100:1;"), 0), 14);
      due(kind + " 100 at 9/10", pressed(Check.with(LONG, kind + "100:2;"), 0), 64);
      due(kind + " 90 at 9/10", pressed(Check.with(LONG, kind + "90:2;"), 0), 94);
      due(kind + " 91 at 9/10", pressed(Check.with(LONG, kind + "91:2;"), 0), 64);
    }
  }

  // Of 20 hundredths less (0 at least).
  private static void bold() {
    due("bold 0", pressedInRare("pb00"), 86);
    due("bold 1", pressedInRare("pb01"), 86);
    due("bold 19", pressedInRare("pb019"), 86);
    due("bold 20", pressedInRare("pb020"), 86);
    due("bold 21", pressedInRare("pb021"), 84);
    due("bold 22", pressedInRare("pb022"), 80);
    due("bold 30", pressedInRare("pb030"), 80);
    due("bold 31", pressedInRare("pb031"), 64);
    due("bold 100 at 8/10", pressed(Check.with("w0,1,0;w1,8,1;w1,2,2;", "pb0100:1;"), 0), 6);
    due("bold 100 at 7/10", pressed(Check.with("w0,1,0;w1,7,1;w1,3,2;", "pb0100:1;"), 0), 4);
  }

  /** How many are WRONG up to the END behind WORD 2 (tens) and behind WORD 4, one at WORD 1 ahead of the learner. */
  private static int wrongWithLearner(String player) {
    BeforeTheEnd x = Check.with(RARE, "pt00:8;" + player + ":1;");
    x.setOf(0, 2);
    due("one was WRONG at WORD 1", x.run(5, 1), 1);
    due("who learns, WINS at the last", x.run(6, 0), 1);
    due("who presses first, WINS at END 8", x.run(8, 0), 0);
    return x.run(5, 2) * 10 + x.run(7, 2);
  }

  // Half of SURE, cut, once another one was WRONG.
  private static void learn() {
    due("half of 0", wrongWithLearner("pl10"), 22);
    due("half of 1 is 0", wrongWithLearner("pl11"), 22);
    due("half of 2 is 1", wrongWithLearner("pl12"), 22);
    due("half of 3 is 1", wrongWithLearner("pl13"), 22);
    due("half of 4 is 2", wrongWithLearner("pl14"), 12);
    due("half of 20", wrongWithLearner("pl120"), 12);
    due("half of 21 is 10", wrongWithLearner("pl121"), 12);
    due("half of 22 is 11", wrongWithLearner("pl122"), 11);
    due("half of 100", wrongWithLearner("pl1100"), 11);
    due("one of KIND s has all of it", wrongWithLearner("ps14"), 12);
    due("one of KIND s has all of 20", wrongWithLearner("ps120"), 11);
    BeforeTheEnd x = Check.with(RARE, "pl02:1;pt90:8;");
    runs("not as long as none was", x, 7, -9, 4, 1);
    due("nor where it is asked", pressed(x, 0), 80);
    x.setOf(1, 2);
    runs("but then", x, 7, -9, 1, 2);
    runs("but then, at WORD 2", x, 5, -9, 1, 2);
  }

  // At WORDS told, and at no others.
  private static void told() {
    BeforeTheEnd x = Check.with(RARE, "pt00:1;pt0100:19;");
    due("told none", pressed(x, 0), 0);
    due("told none, whatever its SURE", pressed(x, 1), 0);
    for (int bits = 0; bits < 512; bits++) {
      x = Check.with(RARE, "pt00:1;");
      x.setOf(0, bits);
      due("told " + bits, pressed(x, 0), bits & 86);
    }
    runs("told none", Check.with(CHAIN, "pt00:1;"), 3, -9, -9, 0);
  }

  private static void aloneFollowsPoints() {
    BeforeTheEnd x = withPoints(Check.with(THIRD, "pa00:1;pe00:1;"), 10, 1, 2, 1);
    due("PRESS is WAIT", pressed(x, 0), 6);
    due("as ALONE tells", x.alone(1), 6);
    x.points(2, 1);
    due("PRESS is less", pressed(x, 0), 4);
    x.points(1, 0);
    due("PRESS is more", pressed(x, 0), 6);
  }

  private static void noPlayers() {
    BeforeTheEnd x = Check.with(LONG);
    runs("no PLAYERS", x, 5, -9, -9, 0);
    Check.mean("NOBODY", x.nobody(0), x.nobody(1), 1, 1);
    Check.mean("DULL", x.dull(0), x.dull(1), 1, 1);
    due("LAW", x.law(100), 0);
    due("a judged ROW", x.row(9) + x.judge(1), -8);
  }

  // The one with the least HAND answers, of several the least number.
  private static void hands() {
    for (int a = 0; a <= 9; a++) {
      for (int b = 0; b <= 9; b++) {
        BeforeTheEnd x = Check.with("w0,1,1;", "pe" + a + "0:1;pe" + b + "0:1;");
        due("HANDS " + a + ", " + b, x.run(1, 0), a <= b ? 0 : 1);
      }
    }
    BeforeTheEnd x = Check.with("w0,1,1;", "pe50:1;pe50:1;pe50:1;pe50:1;");
    due("four like ones", x.run(1, 0), 0);
    BeforeTheEnd y = Check.with("w0,1,1;", "pe00:2;pe90:1;pe80:1;pe80:1;");
    due("of those who press", y.run(1, 0), 2);
    BeforeTheEnd z = Check.with(CHAIN, "pe00:1;ps9100:1;");
    runs("the slower one ahead of the quicker one", z, 3, 1, 1, 0);
  }

  // The others hear on from the next WORD on: at a WORD ahead of the END one answers.
  private static void oneAnswersAtAWord() {
    BeforeTheEnd x = Check.with(LONG, "pt10:2;pt00:2;pt20:1;");
    x.setOf(0, 2);
    x.setOf(1, 2);
    x.setOf(2, 2);
    runs("of three at WORD 1 one", x, 5, -9, 1, 1);
    x.setOf(2, 16);
    runs("another one at WORD 4", x, 5, 2, 1, 1);
    x.setOf(2, 32);
    runs("another one at the END", x, 5, 2, 1, 1);
    x.setOf(1, 64);
    runs("first of all the other one", x, 5, 2, 1, 1);
    runs("right at WORD 1", x, 6, 0, 1, 0);
    x.setOf(0, 0);
    x.setOf(2, 0);
    runs("at the END alone", x, 6, 1, 6, 0);
    runs("none at the other END", x, 5, -9, -9, 0);
  }

  private static BeforeTheEnd fourAtEachWord() {
    BeforeTheEnd x = Check.with(LONG, "pt30:2;pt20:2;pt10:2;pt00:2;");
    for (int p = 0; p < 4; p++) x.setOf(p, 127);
    return x;
  }

  private static void fourWrong() {
    BeforeTheEnd x = fourAtEachWord();
    runs("all four WRONG, one at each WORD", x, 5, -9, 1, 4);
    runs("the quickest one", x, 6, 3, 1, 0);
    for (int p = 0; p < 3; p++) worth("WRONG by a tenth", x, p, -1, 2);
    worth("of the quickest one", x, 3, 17, 2);
    Check.mean("NOBODY", x.nobody(0), x.nobody(1), 1, 10);
    for (int p = 0; p < 4; p++) x.setOf(p, 14);
    runs("at three WORDS three", x, 5, -9, 1, 3);
  }

  // BOTH: whether another one may answer at the END when one was WRONG.
  private static void both() {
    BeforeTheEnd x = fourAtEachWord();
    due("BOTH was", x.points(3, 0), 1);
    runs("over by one WRONG", x, 5, -9, 1, 1);
    for (int p = 0; p < 3; p++) worth("has nothing", x, p, 0, 1);
    worth("the quickest one", x, 3, 17, 2);
    BeforeTheEnd y = Check.with(LONG, "pt00:2;pe00:1;");
    y.setOf(0, 2);
    runs("another one at the END", y, 5, 1, 1, 1);
    y.points(3, 0);
    runs("none at the END", y, 5, -9, 1, 1);
    runs("right is right", y, 6, 0, 1, 0);
    wins("none", y, 1, 0, 1);
  }

  // EARLY: so many more for each WORD that the END is longer than that at which one presses.
  private static void early() {
    BeforeTheEnd x = withPoints(longest(), 20, 20, 5, 1);
    x.setOf(0, 2);
    worth("22 WORDS early", x, 0, 130, 1);
    worth("too late", x, 1, 0, 1);
    x.setOf(0, 1 << 22);
    worth("one WORD early", x, 0, 25, 1);
    x.setOf(0, 1 << 23);
    worth("at the END", x, 0, 20, 1);
    x.points(2, 0);
    x.setOf(0, 2);
    worth("nothing for it", x, 0, 20, 1);
    due("an evening", x.evening(20, 7, 0), 400);
    x.points(2, 5);
    due("an early evening", x.evening(20, 7, 0), 2600);
  }

  private static void winsOfNoneAndAll() {
    BeforeTheEnd x = Check.with(THIRD, "pe00:12;pe10:12;pe00:3;");
    wins("always", x, 0, 1, 1);
    wins("never the slower one", x, 1, 0, 1);
    wins("never one who knows none", x, 2, 0, 1);
    x.points(0, 0);
    wins("always, for no POINTS", x, 0, 1, 1);
    worth("no POINTS", x, 0, 0, 1);
    BeforeTheEnd y = Check.with(THIRD, "pe00:1;pe00:2;");
    wins("a third", y, 0, 1, 3);
    wins("two thirds", y, 1, 2, 3);
    // By WEIGHTS of the whole TREE, from WORD 0 on: 4/6 * 1/2 of ANSWERS 1 and 2, 2/6 * 1/4 of 3, 2/6 * 3/4 of 4.
    BeforeTheEnd z = Check.with("w0,4,0;w0,2,0;w1,1,1;w1,1,2;w2,3,3;w2,9,4;", "pe00:1;pe00:3;");
    wins("of the whole TREE", z, 0, 1, 3);
    wins("of the whole TREE, another one", z, 1, 1, 12);
    worth("of the whole TREE", z, 0, 10, 3);
    worth("of the whole TREE, another one", z, 1, 5, 6);
    Check.mean("NOBODY of the whole TREE", z.nobody(0), z.nobody(1), 7, 12);
    Check.quiz(z, "ps00:4;");
    Check.mean("DULL of the whole TREE", z.dull(0), z.dull(1), 2, 3);
  }

  private static void worthFromLeastToGreatest() {
    BeforeTheEnd x = Check.with(THIRD, "pt00:1;");
    x.setOf(0, 2);
    worth("10/3 less 10/3", x, 0, 0, 1);
    x.points(1, 20);
    worth("below 0", x, 0, -10, 1);
    x.points(1, 0);
    worth("nothing less", x, 0, 10, 3);
    BeforeTheEnd y = withPoints(Check.with(RARE, "pt00:1;"), 0, 20, 0, 1);
    y.setOf(0, 2);
    worth("the least", y, 0, -999, 50);
    y.points(0, 20);
    worth("a little more", y, 0, -499, 25);
    y.points(2, 5);
    // 1/1000 * (20 + 3 * 5) less 999/1000 * 20.
    worth("a little more by EARLY", y, 0, -3989, 200);
  }

  private static void nobodyAndDull() {
    BeforeTheEnd x = Check.with(THIRD, "pe00:1;");
    Check.mean("NOBODY by two thirds", x.nobody(0), x.nobody(1), 2, 3);
    Check.mean("DULL, none ahead of an END", x.dull(0), x.dull(1), 1, 1);
    Check.quiz(x, "pt00:2;");
    x.setOf(1, 1);
    Check.mean("DULL, WORD 0", x.dull(0), x.dull(1), 1, 1);
    x.setOf(1, 12);
    Check.mean("DULL, at the END itself", x.dull(0), x.dull(1), 1, 1);
    Check.mean("NOBODY never", x.nobody(0), x.nobody(1), 0, 1);
    x.setOf(1, 2);
    Check.mean("DULL never", x.dull(0), x.dull(1), 0, 1);
    Check.mean("NOBODY never, by BOTH", x.nobody(0), x.nobody(1), 0, 1);
    x.points(3, 0);
    Check.mean("NOBODY by a third", x.nobody(0), x.nobody(1), 1, 3);
    for (String players : new String[] {"ps00:1;pe00:1;", "pe00:1;ps00:1;", "pe00:1;pe00:1;pe00:1;ps00:1;"}) {
      BeforeTheEnd z = Check.with(THIRD, players);
      Check.mean("one of several presses", z.dull(0), z.dull(1), 0, 1);
    }
    BeforeTheEnd y = Check.with("w0,1,1;w0,1,2;", "ps00:12;");
    Check.mean("ENDS of LENGTH 1 are DULL", y.dull(0), y.dull(1), 1, 1);
  }

  private static void value() {
    BeforeTheEnd x = withPoints(Check.with(THIRD, "pe00:1;pe00:3;"), 10, 1, 2, 1);
    value("PRESS is WAIT", x, 1, 10, 3);
    value("WORD 0 waits", x, 0, 10, 3);
    value("its END", x, 2, 10, 1);
    value("another END", x, 3, 0, 1);
    x.points(2, 3);
    value("PRESS is more", x, 1, 11, 3);
    x.points(2, 1);
    value("WAIT is more", x, 1, 10, 3);
    x.points(1, 20);
    value("never below WAIT", x, 1, 10, 3);
    withPoints(x, 0, 20, 0, 1);
    for (int w = 0; w < 4; w++) value("of no POINTS at " + w, x, w, 0, 1);
    withPoints(x, 20, 0, 5, 0);
    value("the greatest here", x, 1, 25, 3);
    for (int w = 0; w < 4; w++) {
      Check.mean("without a GUESS", x.value(1, w, 0), x.value(1, w, 1), 0, 1);
    }
    BeforeTheEnd y = withPoints(longest(), 20, 20, 5, 1);
    value("at WORD 0 of 23", y, 0, 130, 1);
    for (int w = 1; w <= 23; w++) value("at WORD " + w, y, w, 20 + 5 * (23 - w), 1);
  }

  // It presses at a WORD, if PRESS is WAIT or more. Its SET: WORDS at which it would (come to or not).
  private static void alone() {
    BeforeTheEnd x = withPoints(longest(), 20, 20, 5, 1);
    due("at all WORDS but 0, come to or not", x.alone(0), (1 << 24) - 2);
    x.points(2, 0);
    due("as PRESS is WAIT at each", x.alone(1), (1 << 24) - 2);
    x.points(0, 0);
    due("and where both are 0", x.alone(1), (1 << 24) - 2);
    BeforeTheEnd y = withPoints(Check.with(THIRD, "pe00:1;pe00:12;pe00:3;"), 0, 1, 0, 1);
    due("at its END for nothing", y.alone(0), 4);
    due("at both ENDS", y.alone(1), 12);
    due("nowhere without a GUESS", y.alone(2), 0);
    y.points(1, 0);
    due("PRESS 0 is WAIT 0", y.alone(0), 6);
  }

  private static void replyOfNone() {
    BeforeTheEnd x = Check.with(THIRD, "pt10:12;pe00:12;ps00:12;");
    due("0 WORDS", x.reply(0, 0), 0);
    for (int most = 0; most <= 2; most++) {
      due("behind quicker ones nothing, of fewest", x.reply(0, most), 0);
      BeforeTheEnd y = Check.with(THIRD, "pt00:3;");
      due("knows none", y.reply(0, most), 0);
      y = Check.with(THIRD, "pt00:12;");
      y.points(0, 0);
      due("for no POINTS", y.reply(0, most), 0);
    }
  }

  // The SET of WORDS, of those with no more than told WORDS in it, with which its WORTH is greatest.
  private static void replyOfOneAndTwo() {
    BeforeTheEnd x = Check.with("w0,2,1;w0,9,2;w0,4,3;w0,4,4;", "pe00:1234;");
    due("one of four ENDS", x.reply(0, 1), 4);
    due("two of four ENDS, the least of like ones", x.reply(0, 2), 12);
    for (char kind : "esblta".toCharArray()) {
      BeforeTheEnd y = Check.with("w0,2,1;w0,9,2;w0,4,3;w0,4,4;", "p" + kind + "00:134;");
      due("as a TOLD one, KIND " + kind, y.reply(0, 1), 8);
      due("two as a TOLD one, KIND " + kind, y.reply(0, 2), 24);
      due("its SET stays", y.player(0, 4), 0);
    }
    BeforeTheEnd z = new BeforeTheEnd();
    for (int w = 1; w <= 23; w++) Check.quiz(z, "w0," + (w < 22 ? 1 : 9) + "," + (1 + w % 9) + ";");
    Check.quiz(z, "pt00:123456789;");
    due("the last of 24", z.reply(0, 1), 1 << 22);
    due("the last two of 24", z.reply(0, 2), 3 << 22);
  }

  // Of fewest, of several the least as bits.
  private static void replyOfSeveral() {
    BeforeTheEnd x = new BeforeTheEnd();
    for (int w = 1; w <= 23; w++) Check.quiz(x, "w0,9," + (1 + w % 9) + ";");
    Check.quiz(x, "pt00:123456789;pt00:19;");
    due("the first of 23 like ones", x.reply(0, 1), 2);
    due("the first two of 23 like ones", x.reply(0, 2), 6);
    due("of ENDS 8, 9, 17, 18 one", x.reply(1, 1), 1 << 8);
    due("of ENDS 8, 9, 17, 18 two", x.reply(1, 2), 3 << 8);
    BeforeTheEnd y = longest();
    due("the first of a chain", y.reply(0, 1), 2);
    due("one brings as much as two", y.reply(0, 2), 2);
    BeforeTheEnd z = Check.with(CHAIN, "pt00:1;pe10:1;");
    z.points(2, 1);
    due("the earliest", z.reply(1, 2), 2);
  }

  /** After how many rounds; the SETS behind it. */
  private static void rests(String what, BeforeTheEnd x, int want, int setA, int setB) {
    due(what + ": rounds", x.rest(0, 1), want);
    due(what + ": SET of a", x.player(0, 4), setA);
    due(what + ": SET of b", x.player(1, 4), setB);
  }

  private static void rest() {
    BeforeTheEnd x = Check.with("w0,1,1;w0,1,2;", "pt00:1;pt00:2;");
    rests("one END each", x, 2, 2, 4);
    rests("at rest", x, 1, 2, 4);
    rests("neither has anything to tell", Check.with("w0,1,1;", "pt00:2;pt00:3;"), 1, 0, 0);
    BeforeTheEnd y = Check.with("w0,1,1;w0,1,2;", "pt00:1;pt00:2;");
    y.setOf(0, 2);
    rests("b alone changes", y, 2, 2, 4);
    BeforeTheEnd z = Check.with("w0,1,1;w0,1,2;", "pt00:1;pt00:2;");
    z.setOf(1, 4);
    rests("a alone changes", z, 2, 2, 4);
    BeforeTheEnd u = Check.with("w0,1,1;", "pt00:1;pt00:1;");
    u.setOf(1, 2);
    rests("a goes first and is no slower", u, 2, 2, 0);
    BeforeTheEnd v = Check.with("w0,1,1;", "pt10:1;pt00:1;");
    rests("b is the quicker one", v, 3, 0, 2);
    BeforeTheEnd w = Check.with("w0,1,1;", "pt10:1;pt00:1;pe00:1;");
    rests("a third one stays as it is", w, 2, 0, 2);
    due("b takes a REPLY to what a took", Check.with(CHAIN, "pt00:1;pt00:1;").rest(1, 0), 3);
  }

  // 10 rounds at most; -9 (the SETS are what they became).
  private static void restOfTenRounds() {
    BeforeTheEnd x = Check.with("w0,2,0;w0,1,0;w1,3,0;w2,7,0;w4,8,0;w5,7,0;w6,6,0;w5,1,0;",
        "w7,9,0;w3,2,3;w1,8,1;w7,2,3;w4,1,3;w3,1,1;w2,6,3;w9,1,3;", "w8,6,1;w8,2,3;w9,5,2;w6,1,1;",
        "pt150:23;pt350:12;pe350:1;");
    withPoints(x, 16, 6, 1, 0);
    x.setOf(1, 21400);
    int setA = x.reply(0, 2);
    due("the tenth round changes neither", x.rest(0, 1), 10);
    due("a first changed", setA == x.player(0, 4) ? 1 : 0, 0);
    due("a rests", x.player(0, 4), x.reply(0, 2));
    due("b rests", x.player(1, 4), x.reply(1, 2));
    BeforeTheEnd y = Check.with("w0,5,0;w1,3,0;w1,5,0;w2,6,0;w3,8,0;w4,5,0;w5,4,0;w7,8,1;",
        "w6,8,2;w0,5,1;w7,6,2;w4,7,1;w3,1,2;w4,1,2;w6,3,2;", "pt850:2;pt750:12;pe050:1;");
    withPoints(y, 20, 18, 2, 1);
    y.setOf(1, 37897);
    due("the eleventh would change neither", y.rest(0, 1), -9);
    due("as the first one now tells", y.rest(0, 1), 1);
  }

  // Of WRONG 0 .. 20 the least with which DULL is told hundredths or more; -9.
  private static void law() {
    BeforeTheEnd x = Check.with("w0,1,0;w0,1,1;w1,1,1;", "ps00:1;");
    due("0 hundredths", x.law(0), 0);
    due("50 of a half", x.law(50), 0);
    due("51 of a half", x.law(51), -9);
    due("100 of a half", x.law(100), -9);
    // One presses at WORD 6, to which one question of a thousand comes, then at WORD 2, to which one of ten does.
    BeforeTheEnd z = Check.with("w0,9,1;w0,1,0;w2,9,1;w2,1,0;w4,9,1;w4,1,0;w6,1,2;", "pt00:2;");
    z.setOf(0, 64);
    Check.mean("DULL but for a thousandth", z.dull(0), z.dull(1), 999, 1000);
    due("99 of 99.9", z.law(99), 0);
    due("100 of 99.9", z.law(100), -9);
    z.setOf(0, 4);
    due("90 of 90", z.law(90), 0);
    due("91 of 90", z.law(91), -9);
    lawAtTheGreatestWrong();
    BeforeTheEnd y = Check.with(THIRD, "pa00:1;");
    due("PRESS is WAIT with WRONG 0", y.law(100), 1);
    due("0 hundredths of none", y.law(0), 0);
    for (int wrong = 0; wrong <= 20; wrong++) {
      y.points(1, wrong);
      y.law(100);
      due("WRONG stays", y.points(1, 0), wrong);
    }
    // One waits, as soon as 2/3 * WRONG is above 1/3 * EARLY.
    for (int early = 0; early <= 5; early++) {
      y.points(2, early);
      due("EARLY " + early, y.law(1), early / 2 + 1);
    }
  }

  private static void lawAtTheGreatestWrong() {
    // One waits, as soon as 1/9 * WRONG is above 8/9 * EARLY, or 1/5 * WRONG above 4/5 * EARLY.
    BeforeTheEnd x = Check.with("w0,1,0;w1,8,1;w1,1,2;", "pa00:1;");
    BeforeTheEnd y = Check.with("w0,1,0;w1,4,1;w1,1,2;", "pa00:1;");
    x.points(2, 2);
    y.points(2, 4);
    due("17 is the least", x.law(100), 17);
    due("17 is the least here, too", y.law(100), 17);
    y.points(2, 5);
    due("21 would be the least", y.law(100), -9);
    // 5/24 * WRONG above 19/24 * EARLY.
    BeforeTheEnd z = Check.with("w0,1,0;w1,9,1;w1,1,1;w1,9,1;w1,5,2;", "pa00:1;");
    z.points(2, 5);
    due("20 is the least", z.law(100), 20);
    due("20 is the least for 1, too", z.law(1), 20);
  }

  // Of EARLY 0 .. 5 that with the greatest WINS of a PLAYER, of several the least.
  private static void mostEarly() {
    BeforeTheEnd x = Check.with(THIRD, "pa90:1;pe00:12;pe00:3;");
    x.points(1, 1);
    // One ALONE presses at WORD 1 from EARLY 2 on.
    due("the first one that helps", x.mostEarly(0), 2);
    due("for another one it is worse", x.mostEarly(1), 0);
    due("none helps", x.mostEarly(2), 0);
    x.points(1, 0);
    due("none is needed", x.mostEarly(0), 0);
    x.points(1, 2);
    due("EARLY 4", x.mostEarly(0), 4);
    x.points(1, 3);
    due("more than EARLY 5", x.mostEarly(0), 0);
    BeforeTheEnd y = Check.with("w0,1,0;w1,2,1;w1,5,2;", "pa90:1;pe00:12;");
    y.points(1, 2);
    due("just EARLY 5", y.mostEarly(0), 5);
    for (int early = 0; early <= 5; early++) {
      x.points(2, early);
      x.mostEarly(0);
      due("EARLY stays", x.points(2, 0), early);
    }
  }

  private static int silent(String player, int word) {
    return Check.with(RARE, player + ":5;").silent(0, word);
  }

  // ANSWERS of which each, if it were all that it KNOWS, would have made it press at a WORD, or on the way to it.
  private static void silentSure() {
    for (int sure : new int[] {0, 50, 100}) due("WORD 0", silent("ps0" + sure, 0), 0);
    due("all that are left", silent("ps00", 1), 770);
    due("a hundredth", silent("ps01", 1), 768);
    due("a tenth", silent("ps010", 1), 768);
    due("above a tenth", silent("ps011", 1), 512);
    due("89 of 89.9", silent("ps089", 1), 512);
    due("90 of 89.9", silent("ps090", 1), 0);
    due("99 of 99", silent("ps099", 2), 512);
    due("100 of 99", silent("ps0100", 2), 0);
    due("on the way", silent("ps099", 4), 512);
    due("on the way to an END, and there", silent("ps099", 6), 514);
    for (int w = 5; w <= 8; w++) {
      due("SURE 100 at END " + w, silent("ps0100", w), new int[] {512, 2, 512, 256}[w - 5]);
    }
    BeforeTheEnd x = Check.with(CHAIN, "ps0100:2;");
    due("a sure one at WORD 0", x.silent(0, 0), 0);
    due("a sure one at WORD 1", x.silent(0, 1), 2);
  }

  private static void silentBold() {
    due("bold 0", silent("pb00", 1), 770);
    due("bold 19", silent("pb019", 1), 770);
    due("bold 20", silent("pb020", 1), 770);
    due("bold 21", silent("pb021", 1), 768);
    due("bold 30", silent("pb030", 1), 768);
    due("bold 31", silent("pb031", 1), 512);
    due("bold 100", silent("pb0100", 1), 512);
    due("bold at WORD 0", silent("pb00", 0), 0);
  }

  // That of which the CHANCE of its GUESS is greater (a of like ones); -9 neither has a GUESS.
  private static void partners() {
    BeforeTheEnd x = Check.with("w0,1,1;w0,1,2;w0,2,3;w0,1,4;", "pe90:1;pe00:2;pe50:3;pe00:9;");
    due("like ones", x.partners(0, 1, 0), 0);
    due("like ones, the other way", x.partners(1, 0, 0), 1);
    due("b is greater", x.partners(0, 2, 0), 2);
    due("a is greater", x.partners(2, 0, 0), 2);
    due("a alone has a GUESS", x.partners(0, 3, 0), 0);
    due("b alone has a GUESS", x.partners(3, 0, 0), 0);
    due("a alone at its END", x.partners(1, 2, 2), 1);
    due("neither at this END", x.partners(0, 1, 4), -9);
    due("neither at this END, the other way", x.partners(3, 2, 4), -9);
  }
}
