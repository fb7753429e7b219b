import java.util.function.LongSupplier;

/**
 * Counts the answers that are not as due; a test's main method ends with its exit(). No test makes more than the 512
 * calls of one object that the document promises.
 */
final class Check {
  private static final int MOST_TOLD = 40;
  private static int wrong = 0;

  private Check() {
  }

  static void due(String what, long got, long want) {
    if (got == want) return;
    wrong++;
    if (wrong <= MOST_TOLD) System.out.println(what + " answered " + got + ", due is " + want);
  }

  /** A fraction in least terms, told by its two parts. */
  static void mean(String what, long above, long below, long wantAbove, long wantBelow) {
    due(what + ", above the line", above, wantAbove);
    due(what + ", below the line", below, wantBelow);
  }

  static void due(String what, String got, String want) {
    if (got.equals(want)) return;
    wrong++;
    if (wrong <= MOST_TOLD) System.out.println(what + " is\n  " + got + ", due is\n  " + want);
  }

  static void fault(String what) {
    wrong++;
    if (wrong <= MOST_TOLD) System.out.println(what);
  }

  /** The call is refused with this number: it is counted once, no other one is. That nothing else changes: RefusalsTest. */
  static void refused(String what, BeforeTheEnd x, int number, LongSupplier call) {
    refused(what, x, number, number, call);
  }

  static void refusedLong(String what, BeforeTheEnd x, int number, LongSupplier call) {
    refused(what, x, number, 4000000000000000000L - number, call);
  }

  static void refused(String what, BeforeTheEnd x, int number, long answer, LongSupplier call) {
    long[] counts = refusals(x);
    due(what, call.getAsLong(), answer);
    long[] after = refusals(x);
    for (int i = 0; i < counts.length; i++) {
      due("refusals -" + (i + 1) + " behind " + what, after[i], counts[i] + (i + 1 == -number ? 1 : 0));
    }
  }

  private static long[] refusals(BeforeTheEnd x) {
    long[] counts = new long[6];
    for (int i = 0; i < counts.length; i++) counts[i] = x.count(11 + i);
    return counts;
  }

  /** All that can be asked for without a refusal and without a change. */
  static String state(BeforeTheEnd x) {
    StringBuilder text = new StringBuilder();
    for (int what = 0; what <= 5; what++) text.append(x.count(what)).append(' ');
    int words = x.count(0);
    int players = x.count(1);
    int facts = x.count(3);
    for (int w = 0; w < words; w++) {
      text.append("| w");
      for (int what = 0; what <= 4; what++) text.append(x.word(w, what)).append(' ');
      text.append(x.left(w));
    }
    for (int p = 0; p < players; p++) {
      text.append("| p");
      for (int what = 0; what <= 4; what++) text.append(x.player(p, what)).append(' ');
    }
    for (int what = 0; what <= 3; what++) {
      int was = x.points(what, 0);
      x.points(what, was);
      text.append("| ").append(was);
    }
    for (int i = -1; i < facts; i++) text.append(x.late(i)).append(' ').append(x.soon(i)).append(' ');
    if (x.whole() == 1) text.append(x.nobody(0)).append('/').append(x.nobody(1)).append(' ').append(x.dull(0));
    return text.toString();
  }

  /** All that can be found out of an object, THE TAPE, the ROW and THE IMAGE too, but for the REFUSALS: it is spent then. */
  static String spent(BeforeTheEnd x) {
    StringBuilder text = new StringBuilder(state(x));
    text.append("| quiz ").append(x.quiz()).append(" judge ").append(x.judge(5)).append("| then ");
    for (int what = 0; what <= 5; what++) text.append(x.count(what)).append(' ');
    int last = x.count(0) - 1;
    for (int what = 0; what <= 4; what++) text.append(x.word(last, what)).append(' ');
    text.append("| on ").append(x.on()).append(' ').append(state(x));
    return text.toString();
  }

  static void feed(BeforeTheEnd x, String text) {
    for (int at = 0; at < text.length(); at += 8) {
      int n = Math.min(8, text.length() - at);
      long bytes = 0;
      for (int i = n - 1; i >= 0; i--) bytes = bytes << 8 | text.charAt(at + i);
      x.feed(n, bytes);
    }
  }

  static int quiz(BeforeTheEnd x, String text) {
    feed(x, text);
    return x.quiz();
  }

  /** A new object with these QUIZZES, each of which must come. */
  static BeforeTheEnd with(String... quizzes) {
    BeforeTheEnd x = new BeforeTheEnd();
    for (String text : quizzes) {
      int statements = text.length() - text.replace(";", "").length();
      due("quiz " + text, quiz(x, text), statements);
    }
    return x;
  }

  static void exit(String name) {
    System.out.println(name + ": " + (wrong == 0 ? "all as due" : wrong + " not as due"));
    if (wrong != 0) System.exit(1);
  }
}
