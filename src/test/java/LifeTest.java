import java.util.List;
import java.util.function.ToLongFunction;

/** "An object is used for at most 512 calls after it has been made": it answers all of them as the document says. */
public final class LifeTest {
  private static final int CALLS = 512;

  private record Call(String name, ToLongFunction<BeforeTheEnd> asked, ToLongFunction<Model> due) {
  }

  private static final List<String> TREE = List.of("w0,2,0;w0,1,2;w1,3,1;w1,1,2;");
  private static final List<String> PLAYERS = List.of("pt050:12;ps250:12;pt160:2;");

  /** Each call of the face once; behind the last of them all is as ahead of the first, but for what is counted. */
  private static final List<Call> CYCLE = List.of(
      new Call("image", x -> x.image(), m -> m.image()),
      new Call("feed", x -> x.feed(7, bytes("pa30:1;")), m -> m.feed(7, bytes("pa30:1;"))),
      new Call("quiz", x -> x.quiz(), m -> m.quiz()),
      new Call("word", x -> x.word(3, 3), m -> m.word(3, 3)),
      new Call("player", x -> x.player(3, 0), m -> m.player(3, 0)),
      new Call("whole", x -> x.whole(), m -> m.whole()),
      new Call("left", x -> x.left(1), m -> m.left(1)),
      new Call("chance", x -> x.chance(0, 2, 1), m -> m.chance(0, 2, 1)),
      new Call("guess", x -> x.guess(2, 1), m -> m.guess(2, 1)),
      new Call("points", x -> x.points(2, 3), m -> m.points(2, 3)),
      new Call("setOf", x -> x.setOf(2, 20), m -> m.setOf(2, 20)),
      new Call("presses", x -> x.presses(1, 1), m -> m.presses(1, 1)),
      new Call("run", x -> x.run(4, 0), m -> m.run(4, 0)),
      new Call("wins", x -> x.wins(1, 0), m -> m.wins(1, 0)),
      new Call("worth", x -> x.worth(1, 0), m -> m.worth(1, 0)),
      new Call("nobody", x -> x.nobody(1), m -> m.nobody(1)),
      new Call("dull", x -> x.dull(0), m -> m.dull(0)),
      new Call("value", x -> x.value(0, 0, 0), m -> m.value(0, 0, 0)),
      new Call("alone", x -> x.alone(0), m -> m.alone(0)),
      new Call("reply", x -> x.reply(0, 2), m -> m.reply(0, 2)),
      new Call("rest", x -> x.rest(0, 2), m -> m.rest(0, 2)),
      new Call("law", x -> x.law(30), m -> m.law(30)),
      new Call("mostEarly", x -> x.mostEarly(3), m -> m.mostEarly(3)),
      new Call("silent", x -> x.silent(1, 1), m -> m.silent(1, 1)),
      new Call("partners", x -> x.partners(2, 1, 1), m -> m.partners(2, 1, 1)),
      new Call("fact", x -> x.fact(6), m -> m.fact(6)),
      new Call("had", x -> x.had(1, 0), m -> m.had(1, 0)),
      new Call("late", x -> x.late(-1), m -> m.late(-1)),
      new Call("soon", x -> x.soon(0), m -> m.soon(0)),
      new Call("evening", x -> x.evening(20, 77, 1), m -> m.evening(20, 77, 1)),
      new Call("row", x -> x.row(1), m -> m.row(1)),
      new Call("judge", x -> x.judge(77), m -> m.judge(77)),
      new Call("on", x -> x.on(), m -> m.on()),
      new Call("count", x -> x.count(1), m -> m.count(1)));

  private LifeTest() {
  }

  public static void main(String[] args) {
    for (Call last : CYCLE) wholeLife(last);
    refusedAllItsLife();
    Check.exit("LifeTest");
  }

  private static long bytes(String text) {
    long bytes = 0;
    for (int i = text.length() - 1; i >= 0; i--) bytes = bytes << 8 | text.charAt(i);
    return bytes;
  }

  /** Feeds and reads the TREE and three PLAYERS; how many calls that took. */
  private static int start(BeforeTheEnd x, Model m) {
    int calls = 0;
    for (List<String> texts : List.of(TREE, PLAYERS)) {
      for (String text : texts) {
        for (int at = 0; at < text.length(); at += 8) {
          String part = text.substring(at, Math.min(at + 8, text.length()));
          Check.due("feed", x.feed(part.length(), bytes(part)), m.feed(part.length(), bytes(part)));
          calls++;
        }
        Check.due("quiz", x.quiz(), m.quiz());
        calls++;
      }
    }
    return calls;
  }

  private static void wholeLife(Call last) {
    BeforeTheEnd x = new BeforeTheEnd();
    Model m = new Model();
    for (int call = start(x, m) + 1; call <= CALLS; call++) {
      Call now = call == CALLS ? last : CYCLE.get(call % CYCLE.size());
      Check.due("call " + call + ", " + now.name, now.asked.applyAsLong(x), now.due.applyAsLong(m));
    }
  }

  private static void refusedAllItsLife() {
    for (int what = 11; what <= 16; what++) {
      BeforeTheEnd x = new BeforeTheEnd();
      for (int call = 1; call < CALLS; call++) refused(x, what);
      Check.due("count(" + what + ")", x.count(what), what == 15 ? 0 : CALLS - 1);
    }
  }

  private static void refused(BeforeTheEnd x, int what) {
    switch (what) {
      case 11 -> x.word(1, 0);
      case 12 -> x.word(0, 5);
      case 13 -> x.on();
      case 14 -> x.feed(0, 0);
      case 16 -> x.feed(9, 0);
      default -> x.whole();
    }
  }
}
