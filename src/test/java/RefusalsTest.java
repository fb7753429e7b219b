import java.util.List;
import java.util.function.Supplier;
import java.util.function.ToLongFunction;

/**
 * Each refused call by each wrong number, and where several REFUSALS fit: the first in the order in which its promise
 * tells them. Behind it the object is held against a twin to which the call never came.
 */
public final class RefusalsTest {
  private static final int LEAST = Integer.MIN_VALUE;
  private static final int GREATEST = Integer.MAX_VALUE;
  private static final int[] BELOW = {-1, -2, LEAST};
  // 32 and 39 are 0 and 7, if a shift takes them.
  private static final int[] NO_WORD_OF_SEVEN = {-1, -2, 7, 8, 23, 24, 32, 39, 64, LEAST, GREATEST};
  private static final int[] NO_PLAYER_OF_FOUR = {-1, -2, 4, 5, 32, LEAST, GREATEST};
  private static final int[] NO_ANSWER = {-1, 0, 10, 11, 32, 33, LEAST, GREATEST};
  private static final int[] NO_PART = {-1, 2, 3, LEAST, GREATEST};

  private static final Supplier<BeforeTheEnd> NEW = BeforeTheEnd::new;
  private static final Supplier<BeforeTheEnd> WHOLE = () -> four("w0,4,0;w0,2,0;w1,1,1;w1,1,2;w2,6,1;w2,3,3;");
  private static final Supplier<BeforeTheEnd> OPEN = () -> four("w0,4,0;w0,2,0;w1,1,1;w1,1,2;w0,6,1;w1,3,3;");
  private static final Supplier<BeforeTheEnd> FULL = RefusalsTest::full;

  private RefusalsTest() {
  }

  public static void main(String[] args) {
    feed();
    wordAndPlayer();
    leftAndChance();
    guess();
    points();
    setOf();
    presses();
    run();
    winsAndWorth();
    nobodyAndDull();
    value();
    alone();
    reply();
    rest();
    law();
    mostEarly();
    silent();
    partners();
    fact();
    had();
    lateAndSoon();
    evening();
    row();
    judge();
    on();
    Check.exit("RefusalsTest");
  }

  /** Seven WORDS; PLAYERS of KINDS t, s, t, a; something else in THE IMAGE, on THE TAPE and in the ROW. */
  private static BeforeTheEnd four(String tree) {
    BeforeTheEnd x = Check.with(tree, "pt10:12;ps260:1;pt00:123;pa30:13;");
    x.setOf(0, 0b1010);
    x.fact(6);
    x.points(2, 3);
    x.image();
    x.setOf(0, 0b0110);
    x.setOf(2, 0b0100);
    x.points(1, 7);
    x.fact(12);
    Check.feed(x, "w2,1,9;w0,2,2;");
    x.row(2);
    x.row(9);
    x.row(0);
    return x;
  }

  /** 24 WORDS, 4 PLAYERS, 5 FACTS, 64 bytes, a ROW of 20. */
  private static BeforeTheEnd full() {
    BeforeTheEnd x = Check.with("w0,1,0;w1,3,3;w1,4,4;w1,5,1;w1,6,2;w1,7,3;w1,8,4;w1,9,1;w1,1,2;",
        "w1,2,3;w1,3,4;w1,4,1;w1,5,2;w1,6,3;w1,7,4;w1,8,1;w1,9,2;w1,1,3;", "w1,2,4;w1,3,1;w1,4,2;w1,5,3;w1,6,4;",
        "pt10:12;ps260:1;pt00:123;pa30:13;");
    x.setOf(0, 2);
    for (int i = 0; i < 5; i++) x.fact(62 >> i & 1022);
    x.image();
    x.setOf(0, 4);
    x.setOf(2, 8);
    for (int i = 0; i < 20; i++) x.row(i % 3 * 2);
    Check.feed(x, "w0,1,1;w0,1,1;w0,1,1;w0,1,1;w0,1,1;w0,1,1;w0,1,1;w00,1,1;w0,1,1;");
    return x;
  }

  /** A call with one number of those that it shall refuse. */
  private interface Call {
    long on(BeforeTheEnd x, int v);
  }

  private static void each(int[] numbers, String what, Supplier<BeforeTheEnd> maker, int number, Call call) {
    for (int v : numbers) held(what + " by " + v, maker, number, number, x -> call.on(x, v));
  }

  private static void eachLong(int[] numbers, String what, Supplier<BeforeTheEnd> maker, int number, Call call) {
    for (int v : numbers) refusedLong(what + " by " + v, maker, number, x -> call.on(x, v));
  }

  private static void refused(String what, Supplier<BeforeTheEnd> maker, int number, ToLongFunction<BeforeTheEnd> call) {
    held(what, maker, number, number, call);
  }

  private static void refusedLong(String what, Supplier<BeforeTheEnd> maker, int number,
      ToLongFunction<BeforeTheEnd> call) {
    held(what, maker, number, 4000000000000000000L - number, call);
  }

  private static void held(String what, Supplier<BeforeTheEnd> maker, int number, long answer,
      ToLongFunction<BeforeTheEnd> call) {
    BeforeTheEnd x = maker.get();
    BeforeTheEnd twin = maker.get();
    for (int times = 1; times <= 2; times++) {
      Check.due(what, call.applyAsLong(x), answer);
      for (int of = 1; of <= 6; of++) {
        int more = of == -number ? times : 0;
        Check.due("REFUSALS -" + of + " behind " + what, x.count(10 + of), twin.count(10 + of) + more);
      }
    }
    Check.due("all behind " + what, Check.spent(x), Check.spent(twin));
  }

  // Promise 2: -4; -6 (n; above 64).
  private static void feed() {
    for (Supplier<BeforeTheEnd> maker : List.of(NEW, WHOLE, FULL)) {
      each(new int[] {0, -1, LEAST}, "feed: n", maker, -4, (x, v) -> x.feed(v, 0x77));
      each(new int[] {9, 10, 64, GREATEST}, "feed: n", maker, -6, (x, v) -> x.feed(v, 0x77));
    }
    each(new int[] {1, 2, 7, 8}, "feed: a full tape", FULL, -6, (x, v) -> x.feed(v, 0x77));
    for (int i = 1; i <= 8; i++) {
      int n = i;
      refused("feed: " + n + " bytes, one too many", () -> withTape(65 - n), -6, x -> x.feed(n, 0));
    }
  }

  private static BeforeTheEnd withTape(int bytes) {
    BeforeTheEnd x = new BeforeTheEnd();
    for (int i = 0; i < bytes; i++) x.feed(1, 'w');
    return x;
  }

  // Promises 4, 5: -1; -2.
  private static void wordAndPlayer() {
    int[] noWhat = {-1, 5, 6, 32, LEAST, GREATEST};
    each(NO_WORD_OF_SEVEN, "word: WORD", WHOLE, -1, (x, v) -> x.word(v, 0));
    each(NO_WORD_OF_SEVEN, "word: WORD, what too", WHOLE, -1, (x, v) -> x.word(v, 5));
    each(noWhat, "word: what", WHOLE, -2, (x, v) -> x.word(6, v));
    each(noWhat, "word: what of WORD 0 alone", NEW, -2, (x, v) -> x.word(0, v));
    each(new int[] {-1, 1, 2, 32}, "word: but WORD 0", NEW, -1, (x, v) -> x.word(v, 0));
    each(new int[] {-1, 24, 25, 32}, "word: of 24", FULL, -1, (x, v) -> x.word(v, 0));
    each(NO_PLAYER_OF_FOUR, "player: PLAYER", WHOLE, -1, (x, v) -> x.player(v, 0));
    each(NO_PLAYER_OF_FOUR, "player: PLAYER, what too", WHOLE, -1, (x, v) -> x.player(v, -1));
    each(noWhat, "player: what", WHOLE, -2, (x, v) -> x.player(3, v));
    each(new int[] {-1, 0, 1, 4}, "player: there is none", NEW, -1, (x, v) -> x.player(v, 0));
  }

  // Promise 7: -1. Promise 8: -1 either (ANSWER 1 .. 9); -2; -3.
  private static void leftAndChance() {
    each(NO_WORD_OF_SEVEN, "left", WHOLE, -1, (x, v) -> x.left(v));
    each(NO_WORD_OF_SEVEN, "left of an open TREE", OPEN, -1, (x, v) -> x.left(v));
    each(new int[] {-1, 1}, "left of WORD 0 alone", NEW, -1, (x, v) -> x.left(v));
    for (Supplier<BeforeTheEnd> maker : List.of(WHOLE, OPEN)) {
      eachLong(NO_WORD_OF_SEVEN, "chance: WORD", maker, -1, (x, v) -> x.chance(v, 1, 0));
      eachLong(NO_WORD_OF_SEVEN, "chance: WORD, all else too", maker, -1, (x, v) -> x.chance(v, 0, 2));
      eachLong(NO_ANSWER, "chance: ANSWER", maker, -1, (x, v) -> x.chance(0, v, 1));
      eachLong(NO_ANSWER, "chance: ANSWER, part too", maker, -1, (x, v) -> x.chance(0, v, -1));
      eachLong(NO_PART, "chance: part", maker, -2, (x, v) -> x.chance(0, 9, v));
    }
    refusedLong("chance: open", OPEN, -3, x -> x.chance(0, 1, 0));
    refusedLong("chance: open, at an END", OPEN, -3, x -> x.chance(3, 1, 1));
    refusedLong("chance: WORD 0 alone", NEW, -3, x -> x.chance(0, 9, 0));
  }

  // Promise 9: -1 either; -3.
  private static void guess() {
    for (Supplier<BeforeTheEnd> maker : List.of(WHOLE, OPEN)) {
      each(NO_PLAYER_OF_FOUR, "guess: PLAYER", maker, -1, (x, v) -> x.guess(v, 0));
      each(NO_WORD_OF_SEVEN, "guess: WORD", maker, -1, (x, v) -> x.guess(3, v));
      each(NO_WORD_OF_SEVEN, "guess: either", maker, -1, (x, v) -> x.guess(4, v));
    }
    refused("guess: open", OPEN, -3, x -> x.guess(3, 6));
    refused("guess: there is none", NEW, -1, x -> x.guess(0, 0));
  }

  // Promise 10: -2; -4; -6.
  private static void points() {
    int[] noWhat = {-1, 4, 5, 32, LEAST, GREATEST};
    int[] most = {20, 20, 5, 1};
    each(noWhat, "points: what", WHOLE, -2, (x, v) -> x.points(v, 0));
    each(noWhat, "points: what, below too", WHOLE, -2, (x, v) -> x.points(v, -1));
    each(noWhat, "points: what, above too", WHOLE, -2, (x, v) -> x.points(v, 21));
    for (int what = 0; what < 4; what++) {
      int of = what;
      int[] above = {most[of] + 1, most[of] + 2, 256, GREATEST};
      each(BELOW, "points " + of + ": v", WHOLE, -4, (x, v) -> x.points(of, v));
      each(above, "points " + of + ": v", WHOLE, -6, (x, v) -> x.points(of, v));
    }
  }

  // Promise 11: -1 PLAYER, bits of WORDS that are not there; -2 another KIND.
  private static void setOf() {
    int[] noBits = {1 << 7, 1 << 7 | 1, 1 << 8, 1 << 23, 1 << 24, 1 << 30, -1, LEAST, GREATEST};
    each(NO_PLAYER_OF_FOUR, "setOf: PLAYER", WHOLE, -1, (x, v) -> x.setOf(v, 0));
    each(NO_PLAYER_OF_FOUR, "setOf: PLAYER, bits too", WHOLE, -1, (x, v) -> x.setOf(v, -1));
    each(noBits, "setOf: bits", WHOLE, -1, (x, v) -> x.setOf(0, v));
    each(noBits, "setOf: bits, KIND too", WHOLE, -1, (x, v) -> x.setOf(1, v));
    each(new int[] {0, 1, 127}, "setOf: KIND s", WHOLE, -2, (x, v) -> x.setOf(1, v));
    each(new int[] {0, 1, 127}, "setOf: KIND a", OPEN, -2, (x, v) -> x.setOf(3, v));
    for (char kind : "esbla".toCharArray()) {
      refused("setOf: KIND " + kind, () -> Check.with("p" + kind + "00:1;"), -2, x -> x.setOf(0, 0));
    }
    each(new int[] {1 << 24, 1 << 31}, "setOf: bits, of 24 WORDS", FULL, -1, (x, v) -> x.setOf(0, v));
    each(new int[] {2, 3}, "setOf: bits, of WORD 0 alone", () -> Check.with("pt00:1;"), -1, (x, v) -> x.setOf(0, v));
    refused("setOf: there is none", NEW, -1, x -> x.setOf(0, 0));
  }

  // Promise 12: -1 either; -3.
  private static void presses() {
    for (Supplier<BeforeTheEnd> maker : List.of(WHOLE, OPEN)) {
      each(NO_PLAYER_OF_FOUR, "presses: PLAYER", maker, -1, (x, v) -> x.presses(v, 0));
      each(NO_WORD_OF_SEVEN, "presses: WORD", maker, -1, (x, v) -> x.presses(0, v));
    }
    refused("presses: open", OPEN, -3, x -> x.presses(0, 3));
    refused("presses: there is none", NEW, -1, x -> x.presses(0, 0));
  }

  // Promise 13: -1 no END; -2; -3.
  private static void run() {
    int[] noWhat = {-1, 3, 4, LEAST, GREATEST};
    int[] noEnd = {0, 1, 2};
    for (Supplier<BeforeTheEnd> maker : List.of(WHOLE, OPEN)) {
      each(NO_WORD_OF_SEVEN, "run: no WORD", maker, -1, (x, v) -> x.run(v, 0));
      each(noEnd, "run: no END", maker, -1, (x, v) -> x.run(v, 0));
      each(noEnd, "run: no END, what too", maker, -1, (x, v) -> x.run(v, 3));
      each(noWhat, "run: what", maker, -2, (x, v) -> x.run(3, v));
    }
    each(new int[] {0, 1, 2}, "run: open", OPEN, -3, (x, v) -> x.run(3, v));
    each(new int[] {0, 1}, "run: WORD 0 alone", NEW, -1, (x, v) -> x.run(v, 0));
  }

  // Promises 14, 15: -1; -2; -3.
  private static void winsAndWorth() {
    for (Supplier<BeforeTheEnd> maker : List.of(WHOLE, OPEN)) {
      eachLong(NO_PLAYER_OF_FOUR, "wins: PLAYER", maker, -1, (x, v) -> x.wins(v, 0));
      eachLong(NO_PLAYER_OF_FOUR, "wins: PLAYER, part too", maker, -1, (x, v) -> x.wins(v, 2));
      eachLong(NO_PART, "wins: part", maker, -2, (x, v) -> x.wins(3, v));
      eachLong(NO_PLAYER_OF_FOUR, "worth: PLAYER", maker, -1, (x, v) -> x.worth(v, 1));
      eachLong(NO_PLAYER_OF_FOUR, "worth: PLAYER, part too", maker, -1, (x, v) -> x.worth(v, -1));
      eachLong(NO_PART, "worth: part", maker, -2, (x, v) -> x.worth(0, v));
    }
    eachLong(new int[] {0, 1}, "wins: open", OPEN, -3, (x, v) -> x.wins(0, v));
    eachLong(new int[] {0, 1}, "worth: open", OPEN, -3, (x, v) -> x.worth(0, v));
    refusedLong("wins: there is none", NEW, -1, x -> x.wins(0, 0));
    refusedLong("worth: there is none", NEW, -1, x -> x.worth(0, 0));
  }

  // Promises 16, 17: -2; -3.
  private static void nobodyAndDull() {
    for (Supplier<BeforeTheEnd> maker : List.of(NEW, WHOLE, OPEN)) {
      eachLong(NO_PART, "nobody: part", maker, -2, (x, v) -> x.nobody(v));
      eachLong(NO_PART, "dull: part", maker, -2, (x, v) -> x.dull(v));
    }
    for (Supplier<BeforeTheEnd> maker : List.of(NEW, OPEN)) {
      eachLong(new int[] {0, 1}, "nobody: open", maker, -3, (x, v) -> x.nobody(v));
      eachLong(new int[] {0, 1}, "dull: open", maker, -3, (x, v) -> x.dull(v));
    }
  }

  // Promise 18: -1 either; -2; -3.
  private static void value() {
    for (Supplier<BeforeTheEnd> maker : List.of(WHOLE, OPEN)) {
      eachLong(NO_PLAYER_OF_FOUR, "value: PLAYER", maker, -1, (x, v) -> x.value(v, 0, 0));
      eachLong(NO_WORD_OF_SEVEN, "value: WORD", maker, -1, (x, v) -> x.value(0, v, 0));
      eachLong(NO_WORD_OF_SEVEN, "value: WORD, part too", maker, -1, (x, v) -> x.value(0, v, 2));
      eachLong(NO_PART, "value: part", maker, -2, (x, v) -> x.value(3, 6, v));
    }
    eachLong(new int[] {0, 1}, "value: open", OPEN, -3, (x, v) -> x.value(0, 0, v));
    refusedLong("value: there is none", NEW, -1, x -> x.value(0, 0, 0));
  }

  // Promise 19: -1; -3.
  private static void alone() {
    each(NO_PLAYER_OF_FOUR, "alone: PLAYER", WHOLE, -1, (x, v) -> x.alone(v));
    each(NO_PLAYER_OF_FOUR, "alone: PLAYER, open too", OPEN, -1, (x, v) -> x.alone(v));
    each(new int[] {0, 3}, "alone: open", OPEN, -3, (x, v) -> x.alone(v));
    refused("alone: there is none", NEW, -1, x -> x.alone(0));
  }

  // Promise 20: -1; -4; -6 2; -3.
  private static void reply() {
    for (Supplier<BeforeTheEnd> maker : List.of(WHOLE, OPEN)) {
      each(NO_PLAYER_OF_FOUR, "reply: PLAYER", maker, -1, (x, v) -> x.reply(v, 0));
      each(NO_PLAYER_OF_FOUR, "reply: PLAYER, below too", maker, -1, (x, v) -> x.reply(v, -1));
      each(NO_PLAYER_OF_FOUR, "reply: PLAYER, above too", maker, -1, (x, v) -> x.reply(v, 3));
      each(BELOW, "reply: most", maker, -4, (x, v) -> x.reply(0, v));
      each(new int[] {3, 4, GREATEST}, "reply: most", maker, -6, (x, v) -> x.reply(0, v));
    }
    each(new int[] {0, 1, 2}, "reply: open", OPEN, -3, (x, v) -> x.reply(0, v));
    refused("reply: there is none", NEW, -1, x -> x.reply(0, 0));
  }

  // Promise 21: -1 (one twice, too); -2 one not of KIND t; -3.
  private static void rest() {
    for (Supplier<BeforeTheEnd> maker : List.of(WHOLE, OPEN)) {
      each(NO_PLAYER_OF_FOUR, "rest: a", maker, -1, (x, v) -> x.rest(v, 0));
      each(NO_PLAYER_OF_FOUR, "rest: b", maker, -1, (x, v) -> x.rest(2, v));
      each(NO_PLAYER_OF_FOUR, "rest: b, KIND of a too", maker, -1, (x, v) -> x.rest(1, v));
      each(new int[] {0, 1, 2, 3}, "rest: one twice", maker, -1, (x, v) -> x.rest(v, v));
      each(new int[] {1, 3}, "rest: KIND of a", maker, -2, (x, v) -> x.rest(v, 0));
      each(new int[] {1, 3}, "rest: KIND of b", maker, -2, (x, v) -> x.rest(2, v));
      refused("rest: KIND of both", maker, -2, x -> x.rest(1, 3));
    }
    refused("rest: open", OPEN, -3, x -> x.rest(0, 2));
    refused("rest: there is none", NEW, -1, x -> x.rest(0, 1));
  }

  // Promise 22: -4; -6 100; -3.
  private static void law() {
    int[] above = {101, 102, GREATEST};
    for (Supplier<BeforeTheEnd> maker : List.of(NEW, WHOLE, OPEN)) {
      each(BELOW, "law", maker, -4, (x, v) -> x.law(v));
      each(above, "law", maker, -6, (x, v) -> x.law(v));
    }
    each(new int[] {0, 1, 100}, "law: open", OPEN, -3, (x, v) -> x.law(v));
    refused("law: WORD 0 alone", NEW, -3, x -> x.law(0));
  }

  // Promise 23: -1; -3.
  private static void mostEarly() {
    each(NO_PLAYER_OF_FOUR, "mostEarly: PLAYER", WHOLE, -1, (x, v) -> x.mostEarly(v));
    each(NO_PLAYER_OF_FOUR, "mostEarly: PLAYER, open too", OPEN, -1, (x, v) -> x.mostEarly(v));
    each(new int[] {0, 3}, "mostEarly: open", OPEN, -3, (x, v) -> x.mostEarly(v));
    refused("mostEarly: there is none", NEW, -1, x -> x.mostEarly(0));
  }

  // Promise 24: -1 either; -2 KIND; -3.
  private static void silent() {
    for (Supplier<BeforeTheEnd> maker : List.of(WHOLE, OPEN)) {
      each(NO_PLAYER_OF_FOUR, "silent: PLAYER", maker, -1, (x, v) -> x.silent(v, 0));
      each(NO_WORD_OF_SEVEN, "silent: WORD", maker, -1, (x, v) -> x.silent(1, v));
      each(NO_WORD_OF_SEVEN, "silent: WORD, KIND too", maker, -1, (x, v) -> x.silent(0, v));
      each(new int[] {0, 2, 3}, "silent: KIND", maker, -2, (x, v) -> x.silent(v, 0));
    }
    for (char kind : "elta".toCharArray()) {
      refused("silent: KIND " + kind, () -> Check.with("w0,1,1;", "p" + kind + "00:1;"), -2, x -> x.silent(0, 1));
    }
    each(new int[] {0, 3, 6}, "silent: open", OPEN, -3, (x, v) -> x.silent(1, v));
    refused("silent: there is none", NEW, -1, x -> x.silent(0, 0));
  }

  // Promise 25: -1 any (one twice, too); -3.
  private static void partners() {
    for (Supplier<BeforeTheEnd> maker : List.of(WHOLE, OPEN)) {
      each(NO_PLAYER_OF_FOUR, "partners: a", maker, -1, (x, v) -> x.partners(v, 0, 0));
      each(NO_PLAYER_OF_FOUR, "partners: b", maker, -1, (x, v) -> x.partners(3, v, 0));
      each(NO_WORD_OF_SEVEN, "partners: WORD", maker, -1, (x, v) -> x.partners(0, 1, v));
      each(new int[] {0, 1, 2, 3}, "partners: one twice", maker, -1, (x, v) -> x.partners(v, v, 0));
    }
    refused("partners: open", OPEN, -3, x -> x.partners(0, 1, 0));
    refused("partners: there is none", NEW, -1, x -> x.partners(0, 1, 0));
  }

  // Promise 26: -1 (0 .. 1022, even); -6 5.
  private static void fact() {
    int[] noBits = {-1, -2, 1, 3, 511, 1021, 1023, 1024, 1026, 2048, LEAST, GREATEST, GREATEST - 1};
    for (Supplier<BeforeTheEnd> maker : List.of(NEW, WHOLE, FULL)) {
      each(noBits, "fact: bits", maker, -1, (x, v) -> x.fact(v));
    }
    each(new int[] {0, 2, 1022}, "fact: a sixth", FULL, -6, (x, v) -> x.fact(v));
  }

  // Promise 27: -4 n below 0; -6 above 5; -1 order below 0, one that there is not, one twice.
  private static void had() {
    int[] above = {6, 7, GREATEST};
    for (Supplier<BeforeTheEnd> maker : List.of(NEW, WHOLE, FULL)) {
      each(BELOW, "had: n", maker, -4, (x, v) -> x.had(v, 0));
      each(BELOW, "had: n, order too", maker, -4, (x, v) -> x.had(v, -1));
      each(above, "had: n", maker, -6, (x, v) -> x.had(v, 43210));
      each(above, "had: n, order too", maker, -6, (x, v) -> x.had(v, -1));
      each(BELOW, "had: order below 0, none asked", maker, -1, (x, v) -> x.had(0, v));
      each(BELOW, "had: order below 0", maker, -1, (x, v) -> x.had(1, v));
    }
    each(new int[] {0, 1, 9, 10}, "had: there is no FACT", NEW, -1, (x, v) -> x.had(1, v));
    each(new int[] {2, 3, 9, 12, GREATEST}, "had: no such FACT of two", WHOLE, -1, (x, v) -> x.had(1, v));
    each(new int[] {20, 21, 2, 12, 90}, "had: no such FACT among two", WHOLE, -1, (x, v) -> x.had(2, v));
    each(new int[] {0, 11, 100, 111}, "had: one twice", WHOLE, -1, (x, v) -> x.had(2, v));
    each(new int[] {10, 1, 210}, "had: more than there are", WHOLE, -1, (x, v) -> x.had(3, v));
    each(new int[] {53210, 43215, 43510}, "had: no such FACT of five", FULL, -1, (x, v) -> x.had(5, v));
    each(new int[] {3210, 43211, 43213, 43214, 3211, 11111}, "had: one of five twice", FULL, -1, (x, v) -> x.had(5, v));
  }

  // Promises 28, 29: -4.
  private static void lateAndSoon() {
    for (Supplier<BeforeTheEnd> maker : List.of(NEW, WHOLE, FULL)) {
      each(new int[] {-2, -3, LEAST}, "late", maker, -4, (x, v) -> x.late(v));
      each(new int[] {-2, -3, LEAST}, "soon", maker, -4, (x, v) -> x.soon(v));
    }
  }

  // Promise 30: -1; -4; -6 20; -3, as 1000000000 less them.
  private static void evening() {
    for (Supplier<BeforeTheEnd> maker : List.of(WHOLE, OPEN)) {
      for (int p : NO_PLAYER_OF_FOUR) {
        for (int n : new int[] {1, 0, 21}) {
          held("evening: PLAYER " + p + ", n " + n, maker, -1, 1000000001, x -> x.evening(n, 0, p));
        }
      }
      for (int n : new int[] {0, -1, LEAST}) {
        held("evening: n " + n, maker, -4, 1000000004, x -> x.evening(n, 0, 0));
      }
      for (int n : new int[] {21, 22, GREATEST}) {
        held("evening: n " + n, maker, -6, 1000000006, x -> x.evening(n, 0, 0));
      }
    }
    for (int n : new int[] {1, 20}) held("evening: open", OPEN, -3, 1000000003, x -> x.evening(n, 0, 0));
    held("evening: there is none", NEW, -1, 1000000001, x -> x.evening(1, 0, 0));
  }

  // Promise 31: -4; -6 (9; 20, too).
  private static void row() {
    int[] above = {10, 11, 256, GREATEST};
    for (Supplier<BeforeTheEnd> maker : List.of(NEW, WHOLE, FULL)) {
      each(BELOW, "row: v", maker, -4, (x, v) -> x.row(v));
      each(above, "row: v", maker, -6, (x, v) -> x.row(v));
    }
    each(new int[] {0, 1, 9}, "row: a full one", FULL, -6, (x, v) -> x.row(v));
  }

  // Promise 32: -3 (it stays).
  private static void judge() {
    each(new int[] {0, 5, -1, LEAST, GREATEST}, "judge: open", OPEN, -3, (x, v) -> x.judge(v));
    refused("judge: WORD 0 alone, an empty ROW", NEW, -3, x -> x.judge(0));
  }

  // Promise 34: -3 there is none.
  private static void on() {
    refused("on: of a new object", NEW, -3, x -> x.on());
    refused("on: none was taken", () -> Check.with("w0,1,1;", "pt00:1;"), -3, x -> x.on());
  }
}
