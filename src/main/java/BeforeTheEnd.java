/**
 * Quiz questions that are heard word by word, and players who press before the question is out.
 * The words in capitals are those of the document's Terms.
 */
public final class BeforeTheEnd {
  private static final int WORDS = 24;
  private static final int PLAYERS = 4;
  private static final int ANSWERS = 10;
  private static final int ALL_ANSWERS = 1022;
  private static final int FACTS = 5;
  private static final int ORDERS = 120;
  private static final int BYTES = 64;
  private static final int ROW = 20;
  private static final int QUESTIONS = 20;
  private static final int ROUNDS = 10;

  private static final String KINDS = "esblta";
  private static final int ENDS = 0;
  private static final int SURE = 1;
  private static final int BOLD = 2;
  private static final int LEARN = 3;
  private static final int TOLD = 4;
  private static final int ALONE = 5;

  private static final int RIGHT = 0;
  private static final int WRONG = 1;
  private static final int EARLY = 2;
  private static final int BOTH = 3;
  private static final int[] GREATEST_POINTS = {20, 20, 5, 1};

  private static final int SUM_WINS = 0;
  private static final int SUM_WORTH = 1;
  private static final int SUM_NOBODY = 2;
  private static final long BELOW_EVERY_WORTH = -4000000000000000000L;

  private static final int NONE = -9;
  private static final int REFUSED_NOBODY = -1;
  private static final int REFUSED_OTHER = -2;
  private static final int REFUSED_STATE = -3;
  private static final int REFUSED_BELOW = -4;
  private static final int REFUSED_ROOM = -6;
  private static final int REFUSALS = 7;
  private static final int EVENING_REFUSED = 1000000000;
  private static final long LONG_REFUSED = 4000000000000000000L;

  private final Tree tree;
  private final Race race;
  private final Text tape = new Text();
  private final Facts facts = new Facts();
  private final int[] firsts = new int[ROW];
  private int firstsCount = 0;
  private final int[] refusals = new int[REFUSALS];

  // WORDS, PLAYERS and FACTS only ever come at the end and never change: of them the image needs the counts alone.
  private boolean imageTaken = false;
  private int imageWords = 0;
  private int imagePlayers = 0;
  private int imageFacts = 0;
  private final int[] imagePoints = new int[GREATEST_POINTS.length];
  private final int[] imageSets = new int[PLAYERS];

  public BeforeTheEnd() {
    tree = new Tree();
    race = new Race(tree);
  }

  public int feed(int n, long bytes) {
    if (n < 1) return refuse(REFUSED_BELOW);
    if (n > 8 || tape.size() + n > BYTES) return refuse(REFUSED_ROOM);
    for (int i = 0; i < n && i < 8; i++) tape.append((int) (bytes >> 8 * i & 255));
    return tape.size();
  }

  public int quiz() {
    int answer = tape.takeQuiz(tree, race);
    tape.clear();
    tree.settle();
    return answer;
  }

  public int word(int word, int what) {
    if (!tree.has(word)) return refuse(REFUSED_NOBODY);
    switch (what) {
      case 0: return tree.parentOf(word);
      case 1: return tree.weightOf(word);
      case 2: return tree.answerOf(word);
      case 3: return tree.lengthOf(word);
      case 4: return tree.nextsOf(word);
      default: return refuse(REFUSED_OTHER);
    }
  }

  public int player(int player, int what) {
    Player who = race.playerAt(player);
    if (who == null) return refuse(REFUSED_NOBODY);
    switch (what) {
      case 0: return who.kind();
      case 1: return who.hand;
      case 2: return who.sure;
      case 3: return who.knows;
      case 4: return who.toldSet();
      default: return refuse(REFUSED_OTHER);
    }
  }

  public int whole() {
    return tree.isWhole() ? 1 : 0;
  }

  public int left(int word) {
    if (!tree.has(word)) return refuse(REFUSED_NOBODY);
    return tree.behindOf(word);
  }

  public long chance(int word, int answer, int part) {
    if (!tree.has(word) || answer < 1 || answer >= ANSWERS) return refuseLong(REFUSED_NOBODY);
    if (isNoPart(part)) return refuseLong(REFUSED_OTHER);
    if (!tree.isWhole()) return refuseLong(REFUSED_STATE);
    return leastTerms(tree.shareOf(word, answer), tree.belowOf(word), part);
  }

  public int guess(int player, int word) {
    Player who = race.playerAt(player);
    if (who == null || !tree.has(word)) return refuse(REFUSED_NOBODY);
    if (!tree.isWhole()) return refuse(REFUSED_STATE);
    return tree.guessAt(word, who.knows);
  }

  public int points(int what, int v) {
    if (what < 0 || what >= GREATEST_POINTS.length) return refuse(REFUSED_OTHER);
    if (v < 0) return refuse(REFUSED_BELOW);
    if (v > GREATEST_POINTS[what]) return refuse(REFUSED_ROOM);
    int was = race.pointOf(what);
    race.setPoint(what, v);
    return was;
  }

  public int setOf(int player, int bits) {
    Player who = race.playerAt(player);
    if (who == null || (bits & ~tree.allWords()) != 0) return refuse(REFUSED_NOBODY);
    if (who.kind() != TOLD) return refuse(REFUSED_OTHER);
    int was = who.toldSet();
    who.tell(bits);
    return was;
  }

  public int presses(int player, int word) {
    if (race.playerAt(player) == null || !tree.has(word)) return refuse(REFUSED_NOBODY);
    if (!tree.isWhole()) return refuse(REFUSED_STATE);
    race.prepare();
    return race.calmBits(player) >> word & 1;
  }

  public int run(int word, int what) {
    if (!tree.isEnd(word)) return refuse(REFUSED_NOBODY);
    if (what < 0 || what > 2) return refuse(REFUSED_OTHER);
    if (!tree.isWhole()) return refuse(REFUSED_STATE);
    race.prepare();
    race.runTo(word);
    if (what == 0) return race.winner;
    return what == 1 ? race.firstWord : Integer.bitCount(race.out);
  }

  public long wins(int player, int part) {
    return meanOf(SUM_WINS, player, part);
  }

  public long worth(int player, int part) {
    return meanOf(SUM_WORTH, player, part);
  }

  public long nobody(int part) {
    if (isNoPart(part)) return refuseLong(REFUSED_OTHER);
    if (!tree.isWhole()) return refuseLong(REFUSED_STATE);
    race.prepare();
    return leastTerms(race.total(SUM_NOBODY, NONE), tree.belowOf(0), part);
  }

  public long dull(int part) {
    if (isNoPart(part)) return refuseLong(REFUSED_OTHER);
    if (!tree.isWhole()) return refuseLong(REFUSED_STATE);
    race.prepare();
    return leastTerms(race.dullTotal(), tree.belowOf(0), part);
  }

  public long value(int player, int word, int part) {
    Player who = race.playerAt(player);
    if (who == null || !tree.has(word)) return refuseLong(REFUSED_NOBODY);
    if (isNoPart(part)) return refuseLong(REFUSED_OTHER);
    if (!tree.isWhole()) return refuseLong(REFUSED_STATE);
    race.aloneSet(who.knows);
    return leastTerms(race.valueOf(word), tree.belowOf(word), part);
  }

  public int alone(int player) {
    Player who = race.playerAt(player);
    if (who == null) return refuse(REFUSED_NOBODY);
    if (!tree.isWhole()) return refuse(REFUSED_STATE);
    return race.aloneSet(who.knows);
  }

  public int reply(int player, int most) {
    if (race.playerAt(player) == null) return refuse(REFUSED_NOBODY);
    if (most < 0) return refuse(REFUSED_BELOW);
    if (most > 2) return refuse(REFUSED_ROOM);
    if (!tree.isWhole()) return refuse(REFUSED_STATE);
    return race.bestReply(player, most);
  }

  public int rest(int a, int b) {
    Player first = race.playerAt(a);
    Player second = race.playerAt(b);
    if (first == null || second == null || a == b) return refuse(REFUSED_NOBODY);
    if (first.kind() != TOLD || second.kind() != TOLD) return refuse(REFUSED_OTHER);
    if (!tree.isWhole()) return refuse(REFUSED_STATE);
    for (int round = 1; round <= ROUNDS; round++) {
      int firstWas = first.toldSet();
      int secondWas = second.toldSet();
      first.tell(race.bestReply(a, 2));
      second.tell(race.bestReply(b, 2));
      if (first.toldSet() == firstWas && second.toldSet() == secondWas) return round;
    }
    return NONE;
  }

  public int law(int hundredths) {
    if (hundredths < 0) return refuse(REFUSED_BELOW);
    if (hundredths > 100) return refuse(REFUSED_ROOM);
    if (!tree.isWhole()) return refuse(REFUSED_STATE);
    return race.leastWrong(hundredths);
  }

  public int mostEarly(int player) {
    if (race.playerAt(player) == null) return refuse(REFUSED_NOBODY);
    if (!tree.isWhole()) return refuse(REFUSED_STATE);
    return race.bestEarly(player);
  }

  public int silent(int player, int word) {
    Player who = race.playerAt(player);
    if (who == null || !tree.has(word)) return refuse(REFUSED_NOBODY);
    if (who.kind() != SURE && who.kind() != BOLD) return refuse(REFUSED_OTHER);
    if (!tree.isWhole()) return refuse(REFUSED_STATE);
    int answers = 0;
    for (int answer = 1; answer < ANSWERS; answer++) {
      int pressed = race.pressBits(who, 1 << answer, false);
      if ((pressed & tree.wayTo(word)) != 0) answers |= 1 << answer;
    }
    return answers;
  }

  public int partners(int a, int b, int word) {
    Player first = race.playerAt(a);
    Player second = race.playerAt(b);
    if (first == null || second == null || a == b || !tree.has(word)) return refuse(REFUSED_NOBODY);
    if (!tree.isWhole()) return refuse(REFUSED_STATE);
    long firstShare = tree.shareOf(word, tree.guessAt(word, first.knows));
    long secondShare = tree.shareOf(word, tree.guessAt(word, second.knows));
    if (firstShare == 0 && secondShare == 0) return NONE;
    return secondShare > firstShare ? b : a;
  }

  public int fact(int bits) {
    if (bits < 0 || (bits & ~ALL_ANSWERS) != 0) return refuse(REFUSED_NOBODY);
    if (facts.size() >= FACTS) return refuse(REFUSED_ROOM);
    return facts.append(bits);
  }

  public int had(int n, int order) {
    if (n < 0) return refuse(REFUSED_BELOW);
    if (n > FACTS) return refuse(REFUSED_ROOM);
    if (order < 0 || !facts.takeOrder(n, order)) return refuse(REFUSED_NOBODY);
    return facts.hadBehind(n);
  }

  public int late(int i) {
    if (i < -1) return refuse(REFUSED_BELOW);
    facts.findExtreme(true);
    return facts.told(i);
  }

  public int soon(int i) {
    if (i < -1) return refuse(REFUSED_BELOW);
    facts.findExtreme(false);
    return facts.told(i);
  }

  public int evening(int n, int z, int player) {
    if (race.playerAt(player) == null) return EVENING_REFUSED - refuse(REFUSED_NOBODY);
    if (n < 1) return EVENING_REFUSED - refuse(REFUSED_BELOW);
    if (n > QUESTIONS) return EVENING_REFUSED - refuse(REFUSED_ROOM);
    if (!tree.isWhole()) return EVENING_REFUSED - refuse(REFUSED_STATE);
    race.prepare();
    race.seed = z;
    int sum = 0;
    for (int i = 0; i < n; i++) {
      race.runTo(race.drawEnd());
      sum += race.gainOf(player);
    }
    return sum;
  }

  public int row(int v) {
    if (v < 0) return refuse(REFUSED_BELOW);
    if (v > 9 || firstsCount < 0 || firstsCount >= ROW) return refuse(REFUSED_ROOM);
    firsts[firstsCount] = v;
    firstsCount++;
    return firstsCount;
  }

  public int judge(int z) {
    if (!tree.isWhole()) return refuse(REFUSED_STATE);
    race.prepare();
    race.seed = z;
    int found = NONE;
    for (int i = 0; i < ROW && i < firstsCount && found == NONE; i++) {
      race.runTo(race.drawEnd());
      int first = race.firstPlayer == NONE ? 9 : race.firstPlayer;
      if (first != firsts[i]) found = i;
    }
    firstsCount = 0;
    return found;
  }

  public int image() {
    imageTaken = true;
    imageWords = tree.size();
    imagePlayers = race.size();
    imageFacts = facts.size();
    for (int what = 0; what < imagePoints.length; what++) imagePoints[what] = race.pointOf(what);
    for (int p = 0; p < PLAYERS; p++) {
      Player who = race.playerAt(p);
      imageSets[p] = who == null ? 0 : who.toldSet();
    }
    return tree.size();
  }

  public int on() {
    if (!imageTaken) return refuse(REFUSED_STATE);
    tree.cutBack(imageWords);
    tree.settle();
    race.cutBack(imagePlayers);
    facts.cutBack(imageFacts);
    for (int what = 0; what < imagePoints.length; what++) race.setPoint(what, imagePoints[what]);
    for (int p = 0; p < PLAYERS; p++) {
      Player who = race.playerAt(p);
      if (who != null) who.tell(imageSets[p]);
    }
    return tree.size();
  }

  public int count(int what) {
    if (what >= 11 && what <= 16 && what - 10 < refusals.length) return refusals[what - 10];
    switch (what) {
      case 0: return tree.size();
      case 1: return race.size();
      case 2: return tree.endsCount();
      case 3: return facts.size();
      case 4: return firstsCount;
      case 5: return tape.size();
      default: return NONE;
    }
  }

  private int refuse(int number) {
    int at = -number;
    if (at >= 0 && at < refusals.length) refusals[at]++;
    return number;
  }

  private long refuseLong(int number) {
    return LONG_REFUSED - refuse(number);
  }

  private long meanOf(int what, int player, int part) {
    if (race.playerAt(player) == null) return refuseLong(REFUSED_NOBODY);
    if (isNoPart(part)) return refuseLong(REFUSED_OTHER);
    if (!tree.isWhole()) return refuseLong(REFUSED_STATE);
    race.prepare();
    return leastTerms(race.total(what, player), tree.belowOf(0), part);
  }

  private static boolean isNoPart(int part) {
    return part != 0 && part != 1;
  }

  private static long leastTerms(long above, long below, int part) {
    return parted(part == 0 ? above : below, commonDivisor(above, below));
  }

  private static long parted(long above, long below) {
    return below == 0 ? 0 : above / below;
  }

  private static long commonDivisor(long a, long b) {
    long x = Math.abs(a);
    long y = Math.abs(b);
    // Two longs need 91 divisions at most.
    for (int i = 0; i < 100 && y != 0; i++) {
      long over = x % y;
      x = y;
      y = over;
    }
    return x;
  }

  /**
   * The WORDS. A PARENT stands ahead of its WORDS, so what is behind a WORD is reckoned from the last one back, and
   * what is ahead of it from the first one on.
   *
   * All CHANCES after a WORD w are shares of one whole number, below[w]. It is the sum of the next WEIGHTS (without
   * their common divisor) times the least common multiple of the next WORDS' numbers: with 23 WORDS it stays under
   * 10 to the 14th, so that no sum of POINTS by CHANCES leaves a long.
   */
  private static final class Tree {
    private final int[] parent = new int[WORDS];
    private final int[] weight = new int[WORDS];
    private final int[] answer = new int[WORDS];
    private final int[] length = new int[WORDS];
    private final int[] nexts = new int[WORDS];
    private final int[] nextSum = new int[WORDS];
    private final int[] behind = new int[WORDS];
    private final int[] way = new int[WORDS];
    private final long[] below = new long[WORDS];
    // How many shares of its PARENT one share of a WORD is.
    private final long[] step = new long[WORDS];
    // How many shares of WORD 0 one share of a WORD is.
    private final long[] times = new long[WORDS];
    private final long[][] share = new long[WORDS][ANSWERS];
    // Shares, each times the WORDS still to come up to its END.
    private final long[][] far = new long[WORDS][ANSWERS];
    private int count = 1;
    private int ends = 0;
    private boolean allClosed = false;

    Tree() {
      below[0] = 1;
      times[0] = 1;
    }

    int size() {
      return count;
    }

    int endsCount() {
      return ends;
    }

    boolean isWhole() {
      return allClosed;
    }

    boolean has(int w) {
      return w >= 0 && w < WORDS && w < count;
    }

    boolean isEnd(int w) {
      return has(w) && answer[w] > 0;
    }

    int allWords() {
      return (1 << count) - 1;
    }

    int parentOf(int w) {
      return has(w) ? parent[w] : 0;
    }

    int weightOf(int w) {
      return has(w) ? weight[w] : 0;
    }

    int answerOf(int w) {
      return has(w) ? answer[w] : 0;
    }

    int lengthOf(int w) {
      return has(w) ? length[w] : 0;
    }

    int nextsOf(int w) {
      return has(w) ? nexts[w] : 0;
    }

    int nextSumOf(int w) {
      return has(w) ? nextSum[w] : 0;
    }

    int behindOf(int w) {
      return has(w) ? behind[w] : 0;
    }

    /** The WORDS (bits) heard up to this one, itself too, but not WORD 0. */
    int wayTo(int w) {
      return has(w) ? way[w] : 0;
    }

    long belowOf(int w) {
      return has(w) ? below[w] : 1;
    }

    long timesOf(int w) {
      return has(w) ? times[w] : 0;
    }

    long shareOf(int w, int a) {
      return has(w) && a > 0 && a < ANSWERS ? share[w][a] : 0;
    }

    /** Whether such a WORD may come now; then it does. */
    boolean append(int itsParent, int itsWeight, int itsAnswer) {
      if (count < 1 || count >= WORDS || !has(itsParent) || isEnd(itsParent)) return false;
      if (itsWeight < 1 || itsWeight > 9 || itsAnswer < 0 || itsAnswer > 9) return false;
      parent[count] = itsParent;
      weight[count] = itsWeight;
      answer[count] = itsAnswer;
      count++;
      return true;
    }

    void cutBack(int toCount) {
      if (toCount >= 1 && toCount < count) count = toCount;
    }

    /** Reckons all that follows from the WORDS that are there. */
    void settle() {
      ends = 0;
      allClosed = true;
      for (int w = WORDS - 1; w >= 0; w--) {
        if (w < count) lookBehind(w);
      }
      for (int w = 1; w < WORDS && w < count; w++) lookAhead(w);
    }

    private void lookBehind(int w) {
      if (!has(w)) return;
      long divisor = 0;
      long multiple = 1;
      nexts[w] = 0;
      nextSum[w] = 0;
      behind[w] = answer[w] > 0 ? 1 << answer[w] : 0;
      for (int c = w + 1; c < WORDS && c < count; c++) {
        if (parent[c] != w) continue;
        nexts[w]++;
        nextSum[w] += weight[c];
        behind[w] |= behind[c];
        divisor = commonDivisor(divisor, weight[c]);
        multiple = parted(multiple, commonDivisor(multiple, below[c])) * below[c];
      }
      below[w] = nexts[w] == 0 ? 1 : parted(nextSum[w], divisor) * multiple;
      for (int a = 0; a < ANSWERS; a++) {
        share[w][a] = a > 0 && a == answer[w] ? 1 : 0;
        far[w][a] = 0;
      }
      for (int c = w + 1; c < WORDS && c < count; c++) {
        if (parent[c] != w) continue;
        step[c] = parted(weight[c], divisor) * parted(multiple, below[c]);
        addShares(w, c);
      }
      if (answer[w] > 0) ends++;
      else if (nexts[w] == 0) allClosed = false;
    }

    private void addShares(int w, int c) {
      if (!has(w) || !has(c)) return;
      for (int a = 1; a < ANSWERS; a++) {
        share[w][a] += step[c] * share[c][a];
        far[w][a] += step[c] * (far[c][a] + share[c][a]);
      }
    }

    private void lookAhead(int w) {
      if (!has(w) || !has(parent[w])) return;
      length[w] = length[parent[w]] + 1;
      way[w] = way[parent[w]] | 1 << w;
      times[w] = times[parent[w]] * step[w];
    }

    /** The GUESS after a WORD of one who knows these ANSWERS. */
    int guessAt(int w, int knows) {
      if (!has(w)) return 0;
      int best = 0;
      long most = 0;
      for (int a = 1; a < ANSWERS; a++) {
        if ((knows >> a & 1) == 1 && share[w][a] > most) {
          most = share[w][a];
          best = a;
        }
      }
      return best;
    }

    /** The WORDS (bits) from LENGTH 1 on at which one who knows these ANSWERS has a GUESS. */
    int guessBits(int knows) {
      int bits = 0;
      for (int w = 1; w < WORDS && w < count; w++) {
        if ((behind[w] & knows) != 0) bits |= 1 << w;
      }
      return bits;
    }

    int endBits() {
      int bits = 0;
      for (int w = 1; w < WORDS && w < count; w++) {
        if (answer[w] > 0) bits |= 1 << w;
      }
      return bits;
    }

    /** The WORDS (bits) at which the CHANCE of the GUESS is so many hundredths or more. */
    int sureBits(int knows, int hundredths) {
      int bits = 0;
      for (int w = 1; w < WORDS && w < count; w++) {
        int guess = guessAt(w, knows);
        if (guess > 0 && shareOf(w, guess) * 100 >= hundredths * below[w]) bits |= 1 << w;
      }
      return bits;
    }

    /** What the values of the next WORDS, each in its own shares, are in the mean, in shares of this one. */
    long meanNext(long[] values, int w) {
      long sum = 0;
      for (int c = 1; c < WORDS && c < count && c < values.length; c++) {
        if (parent[c] == w) sum += step[c] * values[c];
      }
      return sum;
    }

    /** What pressing with this GUESS brings in the mean, in shares of the WORD. */
    long pressValue(int w, int guess, int right, int wrong, int early) {
      if (!has(w) || guess < 1 || guess >= ANSWERS) return 0;
      return right * share[w][guess] + early * far[w][guess] - wrong * (below[w] - share[w][guess]);
    }

    /** The first of the next WORDS with which the sum of their WEIGHTS is above what was drawn. */
    int nextBy(int w, int drawn) {
      int sum = 0;
      for (int c = 1; c < WORDS && c < count; c++) {
        if (parent[c] != w) continue;
        sum += weight[c];
        if (sum > drawn) return c;
      }
      return 0;
    }
  }

  /** A PLAYER by its KIND. */
  private abstract static class Player {
    final int hand;
    final int sure;
    final int knows;

    Player(int hand, int sure, int knows) {
      this.hand = hand;
      this.sure = sure;
      this.knows = knows;
    }

    static Player ofKind(int kind, int hand, int sure, int knows) {
      switch (kind) {
        case ENDS: return new Ends(hand, sure, knows);
        case SURE: return new Sure(hand, sure, knows);
        case BOLD: return new Bold(hand, sure, knows);
        case LEARN: return new Learn(hand, sure, knows);
        case TOLD: return new Told(hand, sure, knows);
        default: return new Alone(hand, sure, knows);
      }
    }

    abstract int kind();

    /** The WORDS (bits) at which it would press, if it knew these ANSWERS and had a GUESS there. */
    abstract int wishes(Race race, int known, boolean anotherWasWrong);

    int toldSet() {
      return 0;
    }

    void tell(int bits) {
    }
  }

  private static final class Ends extends Player {
    Ends(int hand, int sure, int knows) {
      super(hand, sure, knows);
    }

    int kind() {
      return ENDS;
    }

    int wishes(Race race, int known, boolean anotherWasWrong) {
      return race.tree.endBits();
    }
  }

  private static class Sure extends Player {
    Sure(int hand, int sure, int knows) {
      super(hand, sure, knows);
    }

    int kind() {
      return SURE;
    }

    int wishes(Race race, int known, boolean anotherWasWrong) {
      return race.tree.sureBits(known, hundredths(anotherWasWrong)) | race.tree.endBits();
    }

    int hundredths(boolean anotherWasWrong) {
      return sure;
    }
  }

  private static final class Bold extends Sure {
    Bold(int hand, int sure, int knows) {
      super(hand, sure, knows);
    }

    int kind() {
      return BOLD;
    }

    int hundredths(boolean anotherWasWrong) {
      return Math.max(0, sure - 20);
    }
  }

  private static final class Learn extends Sure {
    Learn(int hand, int sure, int knows) {
      super(hand, sure, knows);
    }

    int kind() {
      return LEARN;
    }

    int hundredths(boolean anotherWasWrong) {
      return anotherWasWrong ? sure / 2 : sure;
    }
  }

  private static class Told extends Player {
    private int set = 0;

    Told(int hand, int sure, int knows) {
      super(hand, sure, knows);
    }

    int kind() {
      return TOLD;
    }

    int wishes(Race race, int known, boolean anotherWasWrong) {
      return set;
    }

    int toldSet() {
      return set;
    }

    void tell(int bits) {
      set = bits;
    }
  }

  /** Its own SET stays empty: it is found anew whenever it is asked for. */
  private static final class Alone extends Told {
    Alone(int hand, int sure, int knows) {
      super(hand, sure, knows);
    }

    int kind() {
      return ALONE;
    }

    int wishes(Race race, int known, boolean anotherWasWrong) {
      return race.aloneSet(known);
    }
  }

  /** The PLAYERS and POINTS, and what the RUNS to the ENDS come to. */
  private static final class Race {
    final Tree tree;
    private final Player[] players = new Player[PLAYERS];
    private int count = 0;
    private final int[] point = {10, 5, 0, 1};

    // Of each PLAYER, as bits of WORDS: where it has a GUESS, where it presses while nobody was WRONG, and where then.
    private final int[] guessing = new int[PLAYERS];
    private final int[] calm = new int[PLAYERS];
    private final int[] stirred = new int[PLAYERS];

    // The last RUN.
    private final int[] gain = new int[PLAYERS];
    int winner = NONE;
    int firstWord = NONE;
    int firstPlayer = NONE;
    int out = 0;
    private boolean over = false;

    private final long[] aloneValue = new long[WORDS];
    private int replySet = 0;
    private long replyWorth = 0;
    int seed = 0;

    Race(Tree tree) {
      this.tree = tree;
    }

    int size() {
      return count;
    }

    Player playerAt(int p) {
      return p >= 0 && p < PLAYERS && p < count ? players[p] : null;
    }

    int pointOf(int what) {
      return what >= 0 && what < point.length ? point[what] : 0;
    }

    void setPoint(int what, int v) {
      if (what >= 0 && what < point.length) point[what] = v;
    }

    int gainOf(int p) {
      return p >= 0 && p < PLAYERS ? gain[p] : 0;
    }

    int calmBits(int p) {
      return p >= 0 && p < PLAYERS ? calm[p] : 0;
    }

    long valueOf(int w) {
      return w >= 0 && w < WORDS ? aloneValue[w] : 0;
    }

    /** Whether one more PLAYER may come; then it does. */
    boolean append(int kind, int hand, int sure, int knows) {
      if (count < 0 || count >= PLAYERS || sure < 0 || sure > 100) return false;
      players[count] = Player.ofKind(kind, hand, sure, knows);
      count++;
      return true;
    }

    void cutBack(int toCount) {
      if (toCount >= 0 && toCount < count) count = toCount;
    }

    /** Finds where each PLAYER presses; what RUNS, sums and replies come to stands on it. */
    void prepare() {
      for (int p = 0; p < PLAYERS && p < count; p++) {
        Player who = players[p];
        if (who == null) continue;
        guessing[p] = tree.guessBits(who.knows);
        calm[p] = pressBits(who, who.knows, false);
        stirred[p] = pressBits(who, who.knows, true);
      }
    }

    /** Where a PLAYER would press, if it knew these ANSWERS: none presses without a GUESS, nor at WORD 0. */
    int pressBits(Player who, int known, boolean anotherWasWrong) {
      return who == null ? 0 : who.wishes(this, known, anotherWasWrong) & tree.guessBits(known);
    }

    void runTo(int end) {
      winner = NONE;
      firstWord = NONE;
      firstPlayer = NONE;
      out = 0;
      over = false;
      int pressed = 0;
      for (int p = 0; p < PLAYERS && p < count; p++) {
        gain[p] = 0;
        pressed |= calm[p] | stirred[p];
      }
      int stops = tree.wayTo(end) & pressed;
      for (int w = 1; w < WORDS && !over; w++) {
        if ((stops >> w & 1) == 0) continue;
        // Only at the END itself may the next one answer at once; ahead of it there is always a next WORD.
        int turns = w == end ? PLAYERS : 1;
        for (int turn = 0; turn < turns && !over; turn++) {
          int p = quickest(w);
          if (p == NONE) break;
          answerBy(p, w, end);
        }
      }
    }

    private int quickest(int w) {
      int found = NONE;
      int least = 10;
      for (int p = 0; p < PLAYERS && p < count; p++) {
        Player who = players[p];
        int bits = out == 0 ? calm[p] : stirred[p];
        boolean pressing = (bits >> w & 1) == 1 && (out >> p & 1) == 0;
        if (pressing && who != null && who.hand < least) {
          least = who.hand;
          found = p;
        }
      }
      return found;
    }

    private void answerBy(int p, int w, int end) {
      Player who = playerAt(p);
      if (who == null) return;
      if (firstPlayer == NONE) {
        firstPlayer = p;
        firstWord = w;
      }
      if (tree.guessAt(w, who.knows) == tree.answerOf(end)) {
        winner = p;
        gain[p] = point[RIGHT] + point[EARLY] * (tree.lengthOf(end) - tree.lengthOf(w));
        over = true;
      } else {
        gain[p] = -point[WRONG];
        out |= 1 << p;
        over = point[BOTH] == 0;
      }
    }

    /** A sum over all ENDS, in shares of WORD 0. */
    long total(int what, int p) {
      long sum = 0;
      for (int end = 1; end < WORDS; end++) {
        if (!tree.isEnd(end)) continue;
        runTo(end);
        if (what == SUM_WINS && winner == p) sum += tree.timesOf(end);
        if (what == SUM_WORTH) sum += tree.timesOf(end) * gainOf(p);
        if (what == SUM_NOBODY && winner == NONE) sum += tree.timesOf(end);
      }
      return sum;
    }

    /** Over all ENDS ahead of which none presses, in shares of WORD 0. */
    long dullTotal() {
      int pressed = 0;
      for (int p = 0; p < PLAYERS && p < count; p++) pressed |= calm[p];
      long sum = 0;
      for (int end = 1; end < WORDS; end++) {
        int ahead = tree.wayTo(end) & ~(1 << end);
        if (tree.isEnd(end) && (ahead & pressed) == 0) sum += tree.timesOf(end);
      }
      return sum;
    }

    /** The SET of one ALONE who knows these ANSWERS; the VALUE of each WORD is kept on the way, in its shares. */
    int aloneSet(int known) {
      int set = 0;
      for (int w = WORDS - 1; w >= 0; w--) {
        if (!tree.has(w)) continue;
        aloneValue[w] = tree.meanNext(aloneValue, w);
        int guess = w == 0 ? 0 : tree.guessAt(w, known);
        if (guess == 0) continue;
        long press = tree.pressValue(w, guess, point[RIGHT], point[WRONG], point[EARLY]);
        if (press >= aloneValue[w]) {
          aloneValue[w] = press;
          set |= 1 << w;
        }
      }
      return set;
    }

    int bestReply(int p, int most) {
      prepare();
      replySet = 0;
      replyWorth = BELOW_EVERY_WORTH;
      tryReply(p, 0);
      for (int w = 1; w < WORDS && most >= 1; w++) tryReply(p, 1 << w);
      for (int w = 2; w < WORDS && most >= 2; w++) {
        for (int v = 1; v < w; v++) tryReply(p, 1 << w | 1 << v);
      }
      return replySet;
    }

    private void tryReply(int p, int set) {
      if (p < 0 || p >= PLAYERS) return;
      // With a WORD at which it has no GUESS the SET is worth what it is without: that one is of fewer.
      if ((set & ~guessing[p]) != 0) return;
      calm[p] = set;
      stirred[p] = set;
      long worth = total(SUM_WORTH, p);
      if (worth > replyWorth) {
        replyWorth = worth;
        replySet = set;
      }
    }

    /** The least WRONG with which DULL is so many hundredths or more. */
    int leastWrong(int hundredths) {
      int was = point[WRONG];
      int found = NONE;
      for (int v = 0; v <= GREATEST_POINTS[WRONG] && found == NONE; v++) {
        point[WRONG] = v;
        prepare();
        if (dullTotal() * 100 >= hundredths * tree.belowOf(0)) found = v;
      }
      point[WRONG] = was;
      return found;
    }

    /** The least EARLY with which a PLAYER WINS the most. */
    int bestEarly(int p) {
      int was = point[EARLY];
      int found = 0;
      long most = -1;
      for (int v = 0; v <= GREATEST_POINTS[EARLY]; v++) {
        point[EARLY] = v;
        prepare();
        long sum = total(SUM_WINS, p);
        if (sum > most) {
          most = sum;
          found = v;
        }
      }
      point[EARLY] = was;
      return found;
    }

    /** The END of a question drawn by the seed. */
    int drawEnd() {
      int w = 0;
      for (int i = 0; i < WORDS && tree.nextsOf(w) > 0; i++) w = tree.nextBy(w, draw(tree.nextSumOf(w)));
      return w;
    }

    private int draw(int m) {
      seed = seed * 1664525 + 1013904223;
      return m <= 0 ? 0 : (seed & 0x7fffffff) / 256 % m;
    }
  }

  /** FACTS, and the orders in which they may be told. */
  private static final class Facts {
    private final int[] fact = new int[FACTS];
    private int count = 0;
    private final int[] order = new int[FACTS];
    private final int[] best = new int[FACTS];
    private int bestHad = 0;

    int size() {
      return count;
    }

    int append(int bits) {
      if (count < 0 || count >= FACTS) return NONE;
      fact[count] = bits;
      count++;
      return count - 1;
    }

    void cutBack(int toCount) {
      if (toCount >= 0 && toCount < count) count = toCount;
    }

    /** Whether the n lowest digits name FACTS that there are, none twice; then they are the order. */
    boolean takeOrder(int n, int digits) {
      int over = digits;
      int seen = 0;
      for (int i = 0; i < n && i < FACTS; i++) {
        int number = over % 10;
        over /= 10;
        if (number < 0 || number >= count || (seen >> number & 1) == 1) return false;
        seen |= 1 << number;
        order[i] = number;
      }
      return true;
    }

    /** Behind how many of the first n FACTS of the order it is had. */
    int hadBehind(int n) {
      int common = ALL_ANSWERS;
      for (int i = 0; i < n && i < FACTS; i++) {
        int number = order[i];
        if (number >= 0 && number < FACTS) common &= fact[number];
        if (Integer.bitCount(common) == 1) return i + 1;
      }
      return FACTS + 1;
    }

    /** Looks for the first order, by numbers, in which it is had latest or soonest. */
    void findExtreme(boolean latest) {
      for (int i = 0; i < FACTS; i++) order[i] = i;
      bestHad = 0;
      boolean more = true;
      for (int i = 0; i < ORDERS && more; i++) {
        int had = hadBehind(count);
        if (bestHad == 0 || (latest ? had > bestHad : had < bestHad)) {
          bestHad = had;
          for (int k = 0; k < FACTS; k++) best[k] = order[k];
        }
        more = nextOrder();
      }
    }

    /** What findExtreme found: its HAD (i -1), or its i-th FACT. */
    int told(int i) {
      if (i == -1) return bestHad;
      return i >= 0 && i < FACTS && i < count ? best[i] : NONE;
    }

    /** The next order by numbers, of the FACTS that there are; false behind the last. */
    private boolean nextOrder() {
      int at = -1;
      for (int i = 0; i + 1 < FACTS && i + 1 < count; i++) {
        if (order[i] < order[i + 1]) at = i;
      }
      if (at < 0) return false;
      int other = at + 1;
      for (int i = at + 1; i < FACTS && i < count; i++) {
        if (order[i] > order[at]) other = i;
      }
      exchange(at, other);
      int low = at + 1;
      for (int high = count - 1; low < high; high--) {
        exchange(low, high);
        low++;
      }
      return true;
    }

    private void exchange(int i, int k) {
      if (i < 0 || i >= FACTS || k < 0 || k >= FACTS) return;
      int was = order[i];
      order[i] = order[k];
      order[k] = was;
    }
  }

  /** THE TAPE, and how a QUIZ is read from it. */
  private static final class Text {
    private final int[] bytes = new int[BYTES];
    private int count = 0;
    private int at = 0;

    // The STATEMENT read last.
    private boolean ofWord = false;
    private int parent = 0;
    private int weight = 0;
    private int answer = 0;
    private int kind = 0;
    private int hand = 0;
    private int sure = 0;
    private int knows = 0;
    private boolean toldTwice = false;

    int size() {
      return count;
    }

    void append(int b) {
      if (count < 0 || count >= BYTES) return;
      bytes[count] = b;
      count++;
    }

    void clear() {
      count = 0;
    }

    /** How many STATEMENTS came, or the FAULT; with one nothing comes. */
    int takeQuiz(Tree tree, Race race) {
      int bad = firstBadByte();
      if (bad >= 0) return -1000 - bad;
      int wordsWere = tree.size();
      int playersWere = race.size();
      int statements = 0;
      at = 0;
      while (at < count && statements < BYTES) {
        int start = at;
        readStatement();
        if (!takeStatement(tree, race)) {
          tree.cutBack(wordsWere);
          race.cutBack(playersWere);
          return -2000 - start;
        }
        statements++;
      }
      return statements;
    }

    /** The place of the first byte with which no QUIZ can go on; -1 there is none. */
    private int firstBadByte() {
      at = 0;
      for (int i = 0; i < BYTES && (i == 0 || at < count); i++) {
        if (!readStatement()) return at;
      }
      return -1;
    }

    private boolean takeStatement(Tree tree, Race race) {
      if (ofWord) return tree.append(parent, weight, answer);
      return !toldTwice && race.append(kind, hand, sure, knows);
    }

    /** Reads on behind a STATEMENT; false, at the byte at fault, if there is none. */
    private boolean readStatement() {
      if (accepts('w')) {
        ofWord = true;
        return readWord();
      }
      ofWord = false;
      return accepts('p') && readPlayer();
    }

    private boolean readWord() {
      parent = readNumber(2);
      if (parent < 0 || !accepts(',')) return false;
      weight = readNumber(1);
      if (weight < 0 || !accepts(',')) return false;
      answer = readNumber(1);
      return answer >= 0 && accepts(';');
    }

    private boolean readPlayer() {
      kind = readKind();
      if (kind < 0) return false;
      hand = readNumber(1);
      if (hand < 0) return false;
      sure = readNumber(3);
      return sure >= 0 && accepts(':') && readAnswers() && accepts(';');
    }

    private int here() {
      return at >= 0 && at < count && at < BYTES ? bytes[at] : -1;
    }

    private boolean accepts(char sign) {
      if (here() != sign) return false;
      at++;
      return true;
    }

    private int readKind() {
      int sign = here();
      int found = sign < 0 ? -1 : KINDS.indexOf((char) sign);
      if (found >= 0) at++;
      return found;
    }

    /** A number of 1 to so many digits; -1 if there is none. */
    private int readNumber(int mostDigits) {
      int number = -1;
      for (int i = 0; i < mostDigits; i++) {
        int sign = here();
        if (sign < '0' || sign > '9') break;
        number = (i == 0 ? 0 : number * 10) + sign - '0';
        at++;
      }
      return number;
    }

    private boolean readAnswers() {
      knows = 0;
      toldTwice = false;
      int digits = 0;
      while (digits < 9 && here() >= '1' && here() <= '9') {
        int bit = 1 << here() - '0';
        if ((knows & bit) != 0) toldTwice = true;
        knows |= bit;
        digits++;
        at++;
      }
      return digits > 0;
    }
  }
}
