import java.util.Random;

/** Runs of calls drawn by fixed seeds, each answered by the class as the model answers it. */
public final class ModelTest {
  private static final int RUNS = 1200;
  private static final int CALLS = 150;
  private static final String SIGNS = "wpesblta0123456789,:;xA \0\u00ff";
  private static final int[] STRANGE =
      {-1, -2, -9, Integer.MIN_VALUE, Integer.MAX_VALUE, 7, 10, 24, 31, 32, 64, 100, 1 << 20};

  private final Random random;
  private final BeforeTheEnd x = new BeforeTheEnd();
  private final Model m = new Model();
  private final String name;
  private final int mostWords;

  private ModelTest(int run) {
    random = new Random(run);
    name = "run " + run + ": ";
    mostWords = run % 20 == 0 ? 23 : 3 + run % 9;
  }

  public static void main(String[] args) {
    int runs = args.length > 0 ? Integer.parseInt(args[0]) : RUNS;
    for (int run = 0; run < runs; run++) new ModelTest(run).play();
    for (int early = 0; early <= 5; early++) {
      for (int part = 0; part < 2; part++) new ModelTest(-1).playGreatest(early, part);
    }
    new ModelTest(-2).playLongRest();
    Check.exit("ModelTest");
  }

  private void play() {
    buildTree();
    for (int i = 0; i < 4; i++) if (below(5) != 0) quiz(playerStatement());
    for (int i = 0; i < CALLS; i++) {
      int sort = below(10);
      if (sort < 4) askForChances();
      else if (sort < 6) askForGames();
      else if (sort < 8) askForTheRest();
      else change();
    }
  }

  /** Ten times two WORDS and one time three, by WEIGHTS with the greatest numbers below the line. */
  private void playGreatest(int early, int part) {
    for (int w = 1; w <= 23; w++) {
      int parent = w == 23 ? 19 : (w - 1) / 2 * 2 - 1;
      int answer = w % 2 == 1 && w < 20 ? 0 : 1 + w / 2 % 3;
      quiz("w" + Math.max(0, parent) + "," + (w == 21 || w % 2 == 0 ? 8 : 9) + "," + answer + ";");
    }
    quiz("ps545:1;pl030:23;pt712:12;pa90:13;");
    due("whole", x.whole(), 1);
    due("setOf", x.setOf(2, 0x555555), m.setOf(2, 0x555555));
    due("EARLY", x.points(2, early), m.points(2, early));
    due("RIGHT", x.points(0, 20), m.points(0, 20));
    due("WRONG", x.points(1, 20 - 4 * early), m.points(1, 20 - 4 * early));
    compareAllMeans(part);
    if (early < 5 || part == 0) return;
    due("reply", x.reply(2, 1), m.reply(2, 1));
    due("law", x.law(100), m.law(100));
    for (int p = 0; p < 4; p++) due("mostEarly", x.mostEarly(p), m.mostEarly(p));
  }

  /** Nine rounds in which a SET changes, and one in which none does. */
  private void playLongRest() {
    quiz("w0,2,0;w0,1,0;w1,3,0;w2,7,0;w4,8,0;w5,7,0;w6,6,0;w5,1,0;");
    quiz("w7,9,0;w3,2,3;w1,8,1;w7,2,3;w4,1,3;w3,1,1;w2,6,3;w9,1,3;");
    quiz("w8,6,1;w8,2,3;w9,5,2;w6,1,1;pt150:23;pt350:12;pe350:1;");
    int[] points = {16, 6, 1, 0};
    for (int what = 0; what < 4; what++) due("points", x.points(what, points[what]), m.points(what, points[what]));
    due("setOf", x.setOf(1, 21400), m.setOf(1, 21400));
    due("rest", x.rest(0, 1), m.rest(0, 1));
    for (int p = 0; p < 2; p++) due("the SET", x.player(p, 4), m.player(p, 4));
  }

  private void compareAllMeans(int part) {
    for (int p = 0; p < 4; p++) {
      due("wins " + p, x.wins(p, part), m.wins(p, part));
      due("worth " + p, x.worth(p, part), m.worth(p, part));
      due("alone " + p, x.alone(p), m.alone(p));
      for (int w = 0; w < 24; w++) due("value " + p + " " + w, x.value(p, w, part), m.value(p, w, part));
    }
    for (int w = 0; w < 24; w++) {
      for (int a = 1; a <= 9; a++) due("chance " + w + " " + a, x.chance(w, a, part), m.chance(w, a, part));
    }
    due("nobody", x.nobody(part), m.nobody(part));
    due("dull", x.dull(part), m.dull(part));
    if (x.chance(0, 3, 1) < 1_000_000_000_000L) due("a number that is great indeed", x.chance(0, 3, 1), -1);
  }

  private int below(int n) {
    return random.nextInt(n);
  }

  private void due(String call, long got, long want) {
    Check.due(name + call, got, want);
  }

  private void quiz(String text) {
    for (int at = 0; at < text.length(); at += 8) {
      int n = Math.min(8, text.length() - at);
      // What stands above the n bytes is left out.
      long bytes = random.nextLong();
      for (int i = n - 1; i >= 0; i--) bytes = bytes << 8 | text.charAt(at + i);
      due("feed", x.feed(n, bytes), m.feed(n, bytes));
    }
    due("quiz " + text, x.quiz(), m.quiz());
  }

  /** Some open WORDS, each closed by a WORD behind it, most of the time. */
  private void buildTree() {
    int words = 2 + below(mostWords - 1);
    int open = below(Math.max(1, words / 2) + 1);
    int answers = 1 + below(below(3) == 0 ? 9 : 4);
    StringBuilder text = new StringBuilder();
    for (int w = 1; w <= words; w++) {
      boolean closing = w > open;
      int parent = closing ? Math.max(0, 2 * open + 1 - w) : Math.max(0, w - 1 - below(2));
      if (closing && (w > 2 * open + 1)) parent = below(open + 1);
      text.append('w').append(parent).append(',').append(1 + below(9)).append(',');
      text.append(closing ? 1 + below(answers) : 0).append(';');
      if (text.length() > 55 || w == words) {
        quiz(text.toString());
        text.setLength(0);
      }
    }
  }

  private String playerStatement() {
    StringBuilder knows = new StringBuilder();
    for (char a = '1'; a <= '9'; a++) if (below(2) == 0) knows.insert(below(knows.length() + 1), a);
    if (knows.length() == 0) knows.append(1 + below(3));
    char kind = "esbltttaa".charAt(below(9));
    return "p" + kind + below(10) + (below(3) == 0 ? 50 : below(101)) + ":" + knows + ";";
  }

  private String wordStatement() {
    return "w" + below(m.words.size() + 1) + "," + below(10) + "," + below(10) + ";";
  }

  /** STATEMENTS, at times with a byte too few, too many or of another kind. */
  private String drawnText() {
    StringBuilder text = new StringBuilder();
    for (int i = 1 + below(3); i > 0; i--) text.append(below(3) == 0 ? playerStatement() : wordStatement());
    for (int i = below(3); i > 0 && text.length() > 0; i--) {
      int at = below(text.length());
      char sign = SIGNS.charAt(below(SIGNS.length()));
      switch (below(4)) {
        case 0 -> text.deleteCharAt(at);
        case 1 -> text.insert(at, sign);
        case 2 -> text.setCharAt(at, sign);
        default -> text.setLength(at);
      }
    }
    return text.length() > 64 ? text.substring(0, 64) : text.toString();
  }

  private int strange() {
    return below(3) == 0 ? random.nextInt() : STRANGE[below(STRANGE.length)];
  }

  private int anyOf(int n) {
    return below(25) == 0 ? strange() : below(n);
  }

  private int anyWord() {
    return anyOf(m.words.size());
  }

  private int anyPlayer() {
    return anyOf(Math.max(1, m.people.size()));
  }

  private int anyBits() {
    int bits = below(10) == 0 ? strange() : random.nextInt() & (1 << m.words.size()) - 1;
    return below(2) == 0 ? bits & random.nextInt() : bits;
  }

  private void askForChances() {
    int p = anyPlayer();
    int w = anyWord();
    int a = below(20) == 0 ? strange() : below(10);
    int part = anyOf(2);
    String with = " " + p + " " + w + " " + a + " " + part;
    switch (below(10)) {
      case 0 -> due("chance" + with, x.chance(w, a, part), m.chance(w, a, part));
      case 1 -> due("guess" + with, x.guess(p, w), m.guess(p, w));
      case 2 -> due("presses" + with, x.presses(p, w), m.presses(p, w));
      case 3 -> due("wins" + with, x.wins(p, part), m.wins(p, part));
      case 4, 5 -> due("worth" + with, x.worth(p, part), m.worth(p, part));
      case 6 -> due("nobody" + with, x.nobody(part), m.nobody(part));
      case 7 -> due("dull" + with, x.dull(part), m.dull(part));
      case 8 -> due("value" + with, x.value(p, w, part), m.value(p, w, part));
      default -> due("alone" + with, x.alone(p), m.alone(p));
    }
  }

  private void askForGames() {
    int p = anyPlayer();
    int q = anyPlayer();
    int w = anyWord();
    int n = anyOf(21);
    int z = random.nextInt();
    int hundredths = below(10) == 0 ? strange() : below(101);
    String with = " " + p + " " + q + " " + w + " " + n + " " + z + " " + hundredths;
    boolean quick = mostWords <= 11;
    switch (below(10)) {
      case 0, 1 -> {
        for (int what = 0; what < 3; what++) due("run" + with, x.run(w, what), m.run(w, what));
      }
      case 2 -> {
        int most = quick ? anyOf(3) : anyOf(2);
        if (quick || most != 2) due("reply" + with + " " + most, x.reply(p, most), m.reply(p, most));
      }
      case 3, 4 -> {
        if (quick) due("rest" + with, x.rest(p, q), m.rest(p, q));
      }
      case 5 -> due("law" + with, x.law(hundredths), m.law(hundredths));
      case 6 -> due("mostEarly" + with, x.mostEarly(p), m.mostEarly(p));
      case 7 -> due("silent" + with, x.silent(p, w), m.silent(p, w));
      case 8 -> due("partners" + with, x.partners(p, q, w), m.partners(p, q, w));
      default -> due("evening" + with, x.evening(n, z, p), m.evening(n, z, p));
    }
  }

  private void askForTheRest() {
    int w = anyWord();
    int p = anyPlayer();
    int what = anyOf(5);
    int i = anyOf(7) - 1;
    int n = anyOf(6);
    int order = below(10) == 0 ? strange() : order();
    String with = " " + w + " " + p + " " + what + " " + i + " " + n + " " + order;
    switch (below(9)) {
      case 0 -> due("word" + with, x.word(w, what), m.word(w, what));
      case 1 -> due("player" + with, x.player(p, what), m.player(p, what));
      case 2 -> due("whole", x.whole(), m.whole());
      case 3 -> due("left" + with, x.left(w), m.left(w));
      case 4, 5 -> due("had" + with, x.had(n, order), m.had(n, order));
      case 6 -> due("late" + with, x.late(i), m.late(i));
      case 7 -> due("soon" + with, x.soon(i), m.soon(i));
      default -> {
        for (int k = -1; k <= 18; k++) due("count " + k, x.count(k), m.count(k));
      }
    }
  }

  private int order() {
    int order = 0;
    for (int i = 0; i < 5; i++) order = order * 10 + below(5);
    return below(2) == 0 ? order : new int[] {43210, 1234, 23140, 31402, 12034}[below(5)];
  }

  private void change() {
    int p = anyPlayer();
    int bits = anyBits();
    int what = anyOf(4);
    int v = anyOf(22);
    int z = random.nextInt();
    String with = " " + p + " " + bits + " " + what + " " + v;
    switch (below(11)) {
      case 0 -> quiz(drawnText());
      case 1 -> {
        if (below(3) == 0) due("points" + with, x.points(what, v), m.points(what, v));
        else due("points" + with, x.points(what, v % 6), m.points(what, v % 6));
      }
      case 2, 3, 4 -> due("setOf" + with, x.setOf(p, bits), m.setOf(p, bits));
      case 5 -> {
        int set = below(8) == 0 ? strange() : random.nextInt() & random.nextInt(1023) & 1022 | 4;
        due("fact " + set, x.fact(set), m.fact(set));
      }
      case 6 -> due("row" + with, x.row(v % 12), m.row(v % 12));
      case 7 -> judge(z);
      case 8 -> due("image", x.image(), m.image());
      case 9 -> due("on", x.on(), m.on());
      default -> {
        int n = anyOf(9);
        due("feed " + n, x.feed(n, z), m.feed(n, z));
        if (below(2) == 0) due("quiz", x.quiz(), m.quiz());
      }
    }
  }

  /** A ROW as it would be, at times with a byte that is not so. */
  private void judge(int z) {
    int n = below(8);
    for (int i = 0; i < n; i++) {
      int v = below(4) == 0 ? 9 : below(Math.max(1, m.people.size()));
      due("row " + v, x.row(v), m.row(v));
    }
    due("judge " + z, x.judge(z), m.judge(z));
  }
}
