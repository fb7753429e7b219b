import java.math.BigInteger;
import java.util.ArrayList;
import java.util.Arrays;
import java.util.HashMap;
import java.util.List;
import java.util.Map;
import java.util.regex.Matcher;
import java.util.regex.Pattern;

/**
 * The document once more, written another way: exact fractions, every END by its own path, every order and every SET
 * tried out, next to nothing kept that can be found anew. It is slow, and shares no line with the class.
 */
final class Model {
  private static final Pattern QUIZ =
      Pattern.compile("(w[0-9]{1,2},[0-9],[0-9];|p[esblta][0-9][0-9]{1,3}:[1-9]{1,9};)+", Pattern.DOTALL);

  record Fraction(BigInteger above, BigInteger below) {
    static Fraction of(long above, long below) {
      return least(BigInteger.valueOf(above), BigInteger.valueOf(below));
    }

    static Fraction least(BigInteger above, BigInteger below) {
      BigInteger g = above.gcd(below);
      return new Fraction(above.divide(g), below.divide(g));
    }

    Fraction plus(Fraction o) {
      return least(above.multiply(o.below).add(o.above.multiply(below)), below.multiply(o.below));
    }

    Fraction by(Fraction o) {
      return least(above.multiply(o.above), below.multiply(o.below));
    }

    int against(Fraction o) {
      return above.multiply(o.below).compareTo(o.above.multiply(below));
    }

    long part(int part) {
      return (part == 0 ? above : below).longValueExact();
    }
  }

  private static final Fraction ZERO = Fraction.of(0, 1);
  private static final Fraction ONE = Fraction.of(1, 1);

  record Word(int parent, int weight, int answer) {
  }

  static final class Person {
    char kind;
    int hand;
    int sure;
    List<Integer> knows;
    int set;

    Person(char kind, int hand, int sure, List<Integer> knows, int set) {
      this.kind = kind;
      this.hand = hand;
      this.sure = sure;
      this.knows = knows;
      this.set = set;
    }

    Person copy() {
      return new Person(kind, hand, sure, knows, set);
    }
  }

  record Outcome(int winner, int firstWord, int firstPlayer, int wrong, int[] points) {
  }

  private record Kept(List<Word> words, List<Person> people, int[] points, List<Integer> facts) {
  }

  List<Word> words = new ArrayList<>(List.of(new Word(0, 0, 0)));
  List<Person> people = new ArrayList<>();
  int[] points = {10, 5, 0, 1};
  List<Integer> facts = new ArrayList<>();
  private final List<Integer> firsts = new ArrayList<>();
  private StringBuilder tape = new StringBuilder();
  private final int[] refusals = new int[7];
  private Kept kept = null;
  // Of the WORDS that are there now; only to be quicker.
  private final Map<Integer, Fraction> chances = new HashMap<>();
  private final Map<String, Boolean> aloneAt = new HashMap<>();

  private int refuse(int number) {
    refusals[-number]++;
    return number;
  }

  private long refuseLong(int number) {
    return 4000000000000000000L - refuse(number);
  }

  private boolean noWord(int w) {
    return w < 0 || w >= words.size();
  }

  private boolean noPlayer(int p) {
    return p < 0 || p >= people.size();
  }

  private List<Integer> next(int w) {
    List<Integer> found = new ArrayList<>();
    for (int c = 1; c < words.size(); c++) if (words.get(c).parent() == w) found.add(c);
    return found;
  }

  private boolean isEnd(int w) {
    return words.get(w).answer() != 0;
  }

  private boolean isWhole() {
    for (int w = 0; w < words.size(); w++) if (!isEnd(w) && next(w).isEmpty()) return false;
    return true;
  }

  private int length(int w) {
    return w == 0 ? 0 : 1 + length(words.get(w).parent());
  }

  private List<Integer> path(int w) {
    if (w == 0) return new ArrayList<>();
    List<Integer> found = path(words.get(w).parent());
    found.add(w);
    return found;
  }

  private List<Integer> ends() {
    List<Integer> found = new ArrayList<>();
    for (int w = 0; w < words.size(); w++) if (isEnd(w)) found.add(w);
    return found;
  }

  /** The chance that the END comes, when this WORD was heard; 0 if it is not behind it. */
  private Fraction coming(int from, int end) {
    Fraction found = ONE;
    for (int w = end; w != from; w = words.get(w).parent()) {
      if (w == 0) return ZERO;
      int sum = 0;
      for (int c : next(words.get(w).parent())) sum += words.get(c).weight();
      found = found.by(Fraction.of(words.get(w).weight(), sum));
    }
    return found;
  }

  private Fraction chanceOf(int w, int answer) {
    Fraction known = chances.get(w * 10 + answer);
    if (known != null) return known;
    Fraction sum = ZERO;
    for (int end : ends()) if (words.get(end).answer() == answer) sum = sum.plus(coming(w, end));
    chances.put(w * 10 + answer, sum);
    return sum;
  }

  private int guessOf(int w, List<Integer> knows) {
    int found = 0;
    Fraction most = ZERO;
    for (int a = 1; a <= 9; a++) {
      if (knows.contains(a) && chanceOf(w, a).against(most) > 0) {
        most = chanceOf(w, a);
        found = a;
      }
    }
    return found;
  }

  private boolean isSure(int w, int guess, int hundredths) {
    return isEnd(w) || chanceOf(w, guess).against(Fraction.of(hundredths, 100)) >= 0;
  }

  private boolean pressesAt(Person who, int w, boolean anotherWrong) {
    int guess = guessOf(w, who.knows);
    if (w == 0 || guess == 0) return false;
    return switch (who.kind) {
      case 'e' -> isEnd(w);
      case 's' -> isSure(w, guess, who.sure);
      case 'b' -> isSure(w, guess, who.sure < 20 ? 0 : who.sure - 20);
      case 'l' -> isSure(w, guess, anotherWrong ? who.sure / 2 : who.sure);
      case 't' -> (who.set & 1 << w) != 0;
      default -> aloneAt.computeIfAbsent(w + " " + who.knows + Arrays.toString(points),
          key -> pressing(who, w).against(waiting(who, w)) >= 0);
    };
  }

  private Fraction waiting(Person who, int w) {
    Fraction sum = ZERO;
    int weights = 0;
    for (int c : next(w)) weights += words.get(c).weight();
    for (int c : next(w)) sum = sum.plus(valueOf(who, c).by(Fraction.of(words.get(c).weight(), weights)));
    return sum;
  }

  private Fraction pressing(Person who, int w) {
    Fraction sum = ZERO;
    for (int end : ends()) {
      boolean right = words.get(end).answer() == guessOf(w, who.knows);
      int gain = right ? points[0] + points[2] * (length(end) - length(w)) : -points[1];
      sum = sum.plus(coming(w, end).by(Fraction.of(gain, 1)));
    }
    return sum;
  }

  private Fraction valueOf(Person who, int w) {
    Fraction wait = waiting(who, w);
    if (w == 0 || guessOf(w, who.knows) == 0) return wait;
    Fraction press = pressing(who, w);
    return press.against(wait) > 0 ? press : wait;
  }

  private int aloneOf(Person who) {
    Person one = new Person('a', 0, 0, who.knows, 0);
    int bits = 0;
    for (int w = 1; w < words.size(); w++) if (pressesAt(one, w, false)) bits |= 1 << w;
    return bits;
  }

  private Outcome race(int end) {
    int[] got = new int[people.size()];
    List<Integer> wrong = new ArrayList<>();
    int firstWord = -9;
    int firstPlayer = -9;
    for (int w : path(end)) {
      boolean again = true;
      while (again) {
        again = false;
        int chosen = -1;
        for (int p = 0; p < people.size(); p++) {
          if (wrong.contains(p) || !pressesAt(people.get(p), w, !wrong.isEmpty())) continue;
          if (chosen < 0 || people.get(p).hand < people.get(chosen).hand) chosen = p;
        }
        if (chosen < 0) continue;
        if (firstWord < 0) {
          firstWord = w;
          firstPlayer = chosen;
        }
        if (guessOf(w, people.get(chosen).knows) == words.get(end).answer()) {
          got[chosen] = points[0] + points[2] * (length(end) - length(w));
          return new Outcome(chosen, firstWord, firstPlayer, wrong.size(), got);
        }
        got[chosen] = -points[1];
        wrong.add(chosen);
        if (points[3] == 0) return new Outcome(-9, firstWord, firstPlayer, wrong.size(), got);
        again = w == end;
      }
    }
    return new Outcome(-9, firstWord, firstPlayer, wrong.size(), got);
  }

  private Fraction winsOf(int player) {
    Fraction sum = ZERO;
    for (int end : ends()) if (race(end).winner() == player) sum = sum.plus(coming(0, end));
    return sum;
  }

  private Fraction worthOf(int player) {
    Fraction sum = ZERO;
    for (int end : ends()) sum = sum.plus(coming(0, end).by(Fraction.of(race(end).points()[player], 1)));
    return sum;
  }

  private Fraction dullness() {
    Fraction sum = ZERO;
    for (int end : ends()) {
      boolean pressed = false;
      for (int w : path(end)) {
        for (Person who : people) pressed |= w != end && pressesAt(who, w, false);
      }
      if (!pressed) sum = sum.plus(coming(0, end));
    }
    return sum;
  }

  private int replyOf(int player, int most) {
    Person was = people.get(player);
    Person told = new Person('t', was.hand, was.sure, was.knows, 0);
    people.set(player, told);
    int best = 0;
    Fraction worth = null;
    for (int size = 0; size <= most; size++) {
      for (int set : setsOf(size)) {
        told.set = set;
        Fraction now = worthOf(player);
        if (worth == null || now.against(worth) > 0) {
          worth = now;
          best = set;
        }
      }
    }
    people.set(player, was);
    return best;
  }

  private List<Integer> setsOf(int size) {
    List<Integer> sets = new ArrayList<>();
    if (size == 0) sets.add(0);
    for (int a = 0; size > 0 && a < words.size(); a++) {
      if (size == 1) sets.add(1 << a);
      for (int b = 0; size == 2 && b < a; b++) sets.add(1 << a | 1 << b);
    }
    sets.sort(null);
    return sets;
  }

  long feed(int n, long bytes) {
    if (n < 1) return refuse(-4);
    if (n > 8 || tape.length() + n > 64) return refuse(-6);
    for (int i = 0; i < n; i++) tape.append((char) (bytes >>> 8 * i & 255));
    return tape.length();
  }

  private void forget() {
    chances.clear();
    aloneAt.clear();
  }

  long quiz() {
    forget();
    String text = tape.toString();
    tape = new StringBuilder();
    for (int i = 1; i <= text.length(); i++) {
      Matcher m = QUIZ.matcher(text.substring(0, i));
      if (!m.matches() && !m.hitEnd()) return -1000 - (i - 1);
    }
    if (!QUIZ.matcher(text).matches()) return -1000 - text.length();
    List<Word> wordsWere = new ArrayList<>(words);
    List<Person> peopleWere = new ArrayList<>(people);
    int place = 0;
    int statements = 0;
    for (String statement : text.split(";")) {
      if (!takes(statement)) {
        words = wordsWere;
        people = peopleWere;
        return -2000 - place;
      }
      place += statement.length() + 1;
      statements++;
    }
    return statements;
  }

  private boolean takes(String statement) {
    if (statement.charAt(0) == 'w') {
      String[] numbers = statement.substring(1).split(",");
      int parent = Integer.parseInt(numbers[0]);
      int weight = Integer.parseInt(numbers[1]);
      if (noWord(parent) || isEnd(parent) || weight == 0 || words.size() == 24) return false;
      words.add(new Word(parent, weight, Integer.parseInt(numbers[2])));
      return true;
    }
    int colon = statement.indexOf(':');
    int sure = Integer.parseInt(statement.substring(3, colon));
    List<Integer> knows = new ArrayList<>();
    for (char digit : statement.substring(colon + 1).toCharArray()) {
      if (knows.contains(digit - '0')) return false;
      knows.add(digit - '0');
    }
    if (sure > 100 || people.size() == 4) return false;
    people.add(new Person(statement.charAt(1), statement.charAt(2) - '0', sure, knows, 0));
    return true;
  }

  long word(int w, int what) {
    if (noWord(w)) return refuse(-1);
    if (what < 0 || what > 4) return refuse(-2);
    Word it = words.get(w);
    return new int[] {it.parent(), it.weight(), it.answer(), length(w), next(w).size()}[what];
  }

  long player(int p, int what) {
    if (noPlayer(p)) return refuse(-1);
    if (what < 0 || what > 4) return refuse(-2);
    Person it = people.get(p);
    int knows = 0;
    for (int a : it.knows) knows |= 1 << a;
    return new int[] {"esblta".indexOf(it.kind), it.hand, it.sure, knows, it.set}[what];
  }

  long whole() {
    return isWhole() ? 1 : 0;
  }

  long left(int w) {
    if (noWord(w)) return refuse(-1);
    int bits = 0;
    for (int end : ends()) if (w == 0 || path(end).contains(w)) bits |= 1 << words.get(end).answer();
    return bits;
  }

  long chance(int w, int answer, int part) {
    if (noWord(w) || answer < 1 || answer > 9) return refuseLong(-1);
    if (part < 0 || part > 1) return refuseLong(-2);
    if (!isWhole()) return refuseLong(-3);
    return chanceOf(w, answer).part(part);
  }

  long guess(int p, int w) {
    if (noPlayer(p) || noWord(w)) return refuse(-1);
    if (!isWhole()) return refuse(-3);
    return guessOf(w, people.get(p).knows);
  }

  long points(int what, int v) {
    if (what < 0 || what > 3) return refuse(-2);
    if (v < 0) return refuse(-4);
    if (v > new int[] {20, 20, 5, 1}[what]) return refuse(-6);
    int was = points[what];
    points[what] = v;
    return was;
  }

  long setOf(int p, int bits) {
    if (noPlayer(p) || bits < 0 || bits >= 1 << words.size()) return refuse(-1);
    if (people.get(p).kind != 't') return refuse(-2);
    int was = people.get(p).set;
    people.get(p).set = bits;
    return was;
  }

  long presses(int p, int w) {
    if (noPlayer(p) || noWord(w)) return refuse(-1);
    if (!isWhole()) return refuse(-3);
    return pressesAt(people.get(p), w, false) ? 1 : 0;
  }

  long run(int w, int what) {
    if (noWord(w) || !isEnd(w)) return refuse(-1);
    if (what < 0 || what > 2) return refuse(-2);
    if (!isWhole()) return refuse(-3);
    Outcome it = race(w);
    return new int[] {it.winner(), it.firstWord(), it.wrong()}[what];
  }

  private long mean(int p, int part, boolean wins) {
    if (noPlayer(p)) return refuseLong(-1);
    if (part < 0 || part > 1) return refuseLong(-2);
    if (!isWhole()) return refuseLong(-3);
    return (wins ? winsOf(p) : worthOf(p)).part(part);
  }

  long wins(int p, int part) {
    return mean(p, part, true);
  }

  long worth(int p, int part) {
    return mean(p, part, false);
  }

  long nobody(int part) {
    if (part < 0 || part > 1) return refuseLong(-2);
    if (!isWhole()) return refuseLong(-3);
    return winsOf(-9).part(part);
  }

  long dull(int part) {
    if (part < 0 || part > 1) return refuseLong(-2);
    if (!isWhole()) return refuseLong(-3);
    return dullness().part(part);
  }

  long value(int p, int w, int part) {
    if (noPlayer(p) || noWord(w)) return refuseLong(-1);
    if (part < 0 || part > 1) return refuseLong(-2);
    if (!isWhole()) return refuseLong(-3);
    return valueOf(people.get(p), w).part(part);
  }

  long alone(int p) {
    if (noPlayer(p)) return refuse(-1);
    if (!isWhole()) return refuse(-3);
    return aloneOf(people.get(p));
  }

  long reply(int p, int most) {
    if (noPlayer(p)) return refuse(-1);
    if (most < 0) return refuse(-4);
    if (most > 2) return refuse(-6);
    if (!isWhole()) return refuse(-3);
    return replyOf(p, most);
  }

  long rest(int a, int b) {
    if (noPlayer(a) || noPlayer(b) || a == b) return refuse(-1);
    if (people.get(a).kind != 't' || people.get(b).kind != 't') return refuse(-2);
    if (!isWhole()) return refuse(-3);
    int rounds = 0;
    boolean changed = true;
    while (changed && rounds < 10) {
      changed = false;
      for (int p : new int[] {a, b}) {
        int set = replyOf(p, 2);
        changed |= set != people.get(p).set;
        people.get(p).set = set;
      }
      rounds++;
    }
    return changed ? -9 : rounds;
  }

  long law(int hundredths) {
    if (hundredths < 0) return refuse(-4);
    if (hundredths > 100) return refuse(-6);
    if (!isWhole()) return refuse(-3);
    int was = points[1];
    int found = -9;
    for (int v = 20; v >= 0; v--) {
      points[1] = v;
      if (dullness().against(Fraction.of(hundredths, 100)) >= 0) found = v;
    }
    points[1] = was;
    return found;
  }

  long mostEarly(int p) {
    if (noPlayer(p)) return refuse(-1);
    if (!isWhole()) return refuse(-3);
    int was = points[2];
    int found = 0;
    Fraction most = null;
    for (int v = 5; v >= 0; v--) {
      points[2] = v;
      if (most == null || winsOf(p).against(most) >= 0) {
        most = winsOf(p);
        found = v;
      }
    }
    points[2] = was;
    return found;
  }

  long silent(int p, int w) {
    if (noPlayer(p) || noWord(w)) return refuse(-1);
    Person it = people.get(p);
    if (it.kind != 's' && it.kind != 'b') return refuse(-2);
    if (!isWhole()) return refuse(-3);
    int bits = 0;
    for (int a = 1; a <= 9; a++) {
      Person one = new Person(it.kind, it.hand, it.sure, List.of(a), 0);
      for (int on : path(w)) if (pressesAt(one, on, false)) bits |= 1 << a;
    }
    return bits;
  }

  long partners(int a, int b, int w) {
    if (noPlayer(a) || noPlayer(b) || a == b || noWord(w)) return refuse(-1);
    if (!isWhole()) return refuse(-3);
    int guessA = guessOf(w, people.get(a).knows);
    int guessB = guessOf(w, people.get(b).knows);
    if (guessA == 0) return guessB == 0 ? -9 : b;
    if (guessB == 0) return a;
    return chanceOf(w, guessA).against(chanceOf(w, guessB)) >= 0 ? a : b;
  }

  long fact(int bits) {
    if (bits < 0 || bits > 1022 || bits % 2 != 0) return refuse(-1);
    if (facts.size() == 5) return refuse(-6);
    facts.add(bits);
    return facts.size() - 1;
  }

  private int hadIn(List<Integer> order) {
    for (int k = 1; k <= order.size(); k++) {
      int answers = 0;
      for (int a = 1; a <= 9; a++) {
        boolean inAll = true;
        for (int f : order.subList(0, k)) inAll &= (facts.get(f) >> a & 1) == 1;
        if (inAll) answers++;
      }
      if (answers == 1) return k;
    }
    return 6;
  }

  long had(int n, int order) {
    if (n < 0) return refuse(-4);
    if (n > 5) return refuse(-6);
    if (order < 0) return refuse(-1);
    String digits = new StringBuilder(String.format("%010d", order)).reverse().substring(0, n);
    List<Integer> numbers = new ArrayList<>();
    for (char digit : digits.toCharArray()) {
      int number = digit - '0';
      if (number >= facts.size() || numbers.contains(number)) return refuse(-1);
      numbers.add(number);
    }
    return hadIn(numbers);
  }

  private void allOrders(List<Integer> soFar, List<List<Integer>> into) {
    if (soFar.size() == facts.size()) into.add(List.copyOf(soFar));
    for (int f = 0; f < facts.size(); f++) {
      if (soFar.contains(f)) continue;
      soFar.add(f);
      allOrders(soFar, into);
      soFar.remove(soFar.size() - 1);
    }
  }

  private long extreme(int i, int sign) {
    if (i < -1) return refuse(-4);
    List<List<Integer>> orders = new ArrayList<>();
    allOrders(new ArrayList<>(), orders);
    List<Integer> best = orders.get(0);
    for (List<Integer> order : orders) if (sign * hadIn(order) > sign * hadIn(best)) best = order;
    if (i == -1) return hadIn(best);
    return i < best.size() ? best.get(i) : -9;
  }

  long late(int i) {
    return extreme(i, 1);
  }

  long soon(int i) {
    return extreme(i, -1);
  }

  private List<Outcome> played(int n, int seed) {
    List<Outcome> found = new ArrayList<>();
    int z = seed;
    for (int i = 0; i < n; i++) {
      int w = 0;
      while (!isEnd(w)) {
        List<Integer> drawn = new ArrayList<>();
        for (int c : next(w)) for (int k = 0; k < words.get(c).weight(); k++) drawn.add(c);
        z = z * 1664525 + 1013904223;
        w = drawn.get((int) ((z & 0x7fffffffL) / 256 % drawn.size()));
      }
      found.add(race(w));
    }
    return found;
  }

  long evening(int n, int z, int p) {
    if (noPlayer(p)) return 1000000000L - refuse(-1);
    if (n < 1) return 1000000000L - refuse(-4);
    if (n > 20) return 1000000000L - refuse(-6);
    if (!isWhole()) return 1000000000L - refuse(-3);
    int sum = 0;
    for (Outcome it : played(n, z)) sum += it.points()[p];
    return sum;
  }

  long row(int v) {
    if (v < 0) return refuse(-4);
    if (v > 9 || firsts.size() == 20) return refuse(-6);
    firsts.add(v);
    return firsts.size();
  }

  long judge(int z) {
    if (!isWhole()) return refuse(-3);
    int found = -9;
    List<Outcome> outcomes = played(firsts.size(), z);
    for (int i = firsts.size() - 1; i >= 0; i--) {
      int first = outcomes.get(i).firstPlayer();
      if (firsts.get(i) != (first < 0 ? 9 : first)) found = i;
    }
    firsts.clear();
    return found;
  }

  private static List<Person> copies(List<Person> of) {
    List<Person> found = new ArrayList<>();
    for (Person it : of) found.add(it.copy());
    return found;
  }

  long image() {
    kept = new Kept(new ArrayList<>(words), copies(people), points.clone(), new ArrayList<>(facts));
    return words.size();
  }

  long on() {
    if (kept == null) return refuse(-3);
    forget();
    words = new ArrayList<>(kept.words());
    people = copies(kept.people());
    points = kept.points().clone();
    facts = new ArrayList<>(kept.facts());
    return words.size();
  }

  long count(int what) {
    if (what >= 11 && what <= 16) return refusals[what - 10];
    if (what < 0 || what > 5) return -9;
    return Arrays.asList(words.size(), people.size(), ends().size(), facts.size(), firsts.size(), tape.length()).get(what);
  }
}
