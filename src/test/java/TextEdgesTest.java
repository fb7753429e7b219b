import java.util.ArrayList;
import java.util.List;

/** The edges of THE TAPE and of a QUIZ (promises 2 and 3): every sign at every place, every range and the ones beyond. */
public final class TextEdgesTest {
  private static final String DIGITS = "0123456789";
  private static final String KINDS = "esblta";

  private TextEdgesTest() {
  }

  public static void main(String[] args) {
    feedOfEachLength();
    feedUpTo64();
    feedTakesTheLowestBytes();
    tapeIsEmptyBehindAQuiz();
    everySignAtEveryPlace();
    bytesAboveASign();
    everyTextCutOff();
    parents();
    weightsAndAnswers();
    playersKinds();
    hands();
    sures();
    knows();
    toldTwice();
    kindOneComesFirst();
    placeOfTheFirstStatementAtFault();
    nothingComesByAFault();
    roomForWords();
    roomForPlayers();
    mostStatements();
    Check.exit("TextEdgesTest");
  }

  private static void due(String what, long got, long want) {
    Check.due(what, got, want);
  }

  private static void quiz(String text, int want) {
    due("quiz " + text, Check.quiz(new BeforeTheEnd(), text), want);
  }

  // n (1 .. 8) bytes come: how many THE TAPE has.
  private static void feedOfEachLength() {
    for (int n = 1; n <= 8; n++) {
      BeforeTheEnd x = new BeforeTheEnd();
      due("feed " + n, x.feed(n, -1), n);
      due("bytes behind feed " + n, x.count(5), n);
    }
  }

  private static void feedUpTo64() {
    for (int n = 1; n <= 8; n++) {
      BeforeTheEnd x = new BeforeTheEnd();
      for (int i = 0; i < 64 - n; i++) due("feed one", x.feed(1, 0), i + 1);
      due("feed " + n + " up to 64", x.feed(n, 0), 64);
      due("a full tape", x.feed(1, 0), -6);
      due("a full tape has", x.count(5), 64);
    }
    BeforeTheEnd x = new BeforeTheEnd();
    for (int i = 1; i <= 8; i++) due("feed eight", x.feed(8, 0), 8 * i);
  }

  private static void feedTakesTheLowestBytes() {
    String text = "w0,7,8;";
    for (int n = 1; n <= 7; n++) {
      BeforeTheEnd x = new BeforeTheEnd();
      for (int at = 0; at < text.length(); at += n) {
        int length = Math.min(n, text.length() - at);
        long bytes = -1;
        for (int i = length - 1; i >= 0; i--) bytes = bytes << 8 | text.charAt(at + i);
        x.feed(length, bytes);
      }
      due("fed by " + n, x.quiz(), 1);
      due("fed by " + n + ": WEIGHT", x.word(1, 1), 7);
      due("fed by " + n + ": ANSWER", x.word(1, 2), 8);
    }
    BeforeTheEnd x = new BeforeTheEnd();
    // The eighth byte is the highest one; above it a long has none.
    due("eight at once", x.feed(8, 0x70_3b_38_2c_37_2c_30_77L), 8);
    due("the eighth byte came", x.quiz(), -1008);
  }

  private static void tapeIsEmptyBehindAQuiz() {
    BeforeTheEnd x = new BeforeTheEnd();
    for (String text : new String[] {"w0,1,1;", "w0,1,1", "w0,0,1;", ""}) {
      Check.quiz(x, text);
      due("bytes behind quiz " + text, x.count(5), 0);
      due("an empty TAPE", x.quiz(), -1000);
    }
    for (int i = 0; i < 8; i++) x.feed(8, 0);
    due("64 bytes at fault", x.quiz(), -1000);
    due("none of 64", x.count(5), 0);
    for (int i = 1; i <= 8; i++) due("room for 64 again", x.feed(8, 0), 8 * i);
  }

  /** Behind these bytes a QUIZ can go on with these signs, and with no others. */
  private static void goesOn(String bytes, String signs) {
    for (int b = 0; b < 256; b++) {
      String text = bytes + (char) b;
      int found = Check.quiz(new BeforeTheEnd(), text);
      boolean may = signs.indexOf(b) >= 0;
      int whole = text.length() - text.replace(";", "").length();
      int want = !may ? -1000 - bytes.length() : text.endsWith(";") ? whole : -1000 - text.length();
      due("quiz " + bytes + " and byte " + b, found, want);
    }
  }

  private static void everySignAtEveryPlace() {
    goesOn("", "wp");
    goesOn("w", DIGITS);
    goesOn("w0", DIGITS + ",");
    goesOn("w00", ",");
    goesOn("w0,", DIGITS);
    goesOn("w99,", DIGITS);
    goesOn("w0,1", ",");
    goesOn("w00,1", ",");
    goesOn("w0,1,", DIGITS);
    goesOn("w0,1,9", ";");
    goesOn("w0,1,9;", "wp");
    goesOn("w0,1,9;w", DIGITS);
    goesOn("w0,1,9;p", KINDS);
    goesOn("p", KINDS);
    for (char kind : KINDS.toCharArray()) goesOn("p" + kind, DIGITS);
    goesOn("pe0", DIGITS);
    goesOn("pe00", DIGITS + ":");
    goesOn("pe000", DIGITS + ":");
    goesOn("pe0000", ":");
    goesOn("pe00:", "123456789");
    goesOn("pe0000:", "123456789");
    for (int known = 1; known <= 8; known++) goesOn("pe0100:" + "123456789".substring(0, known), "123456789;");
    goesOn("pe0100:123456789", ";");
    goesOn("pe0100:1;", "wp");
    goesOn("pe0100:1;w0", DIGITS + ",");
  }

  /** The same bytes with their sign's bit are none of a QUIZ. */
  private static void bytesAboveASign() {
    String text = "w0,1,1;pe09:1;";
    for (int at = 0; at < text.length(); at++) {
      String other = text.substring(0, at) + (char) (text.charAt(at) + 128) + text.substring(at + 1);
      due("a byte above 127 at " + at, Check.quiz(new BeforeTheEnd(), other), -1000 - at);
    }
  }

  // The end, if something lacks.
  private static void everyTextCutOff() {
    String text = "w00,1,0;w1,9,9;pe01:12;pt9100:123456789;";
    int statements = 0;
    for (int length = 0; length <= text.length(); length++) {
      boolean whole = length > 0 && text.charAt(length - 1) == ';';
      if (whole) statements++;
      quiz(text.substring(0, length), whole ? statements : -1000 - length);
    }
    String full = "w0,1,1;w0,1,1;w0,1,1;w0,1,1;w0,1,1;w0,1,1;w00,1,1;w00,1,1;w0,1,1";
    due("64 bytes, the last of them lacks", full.length(), 64);
    quiz(full, -1064);
    quiz(full.substring(0, 63), -1063);
  }

  // PARENT: a WORD there ahead of it that is no END.
  private static void parents() {
    for (int words = 1; words <= 23; words++) {
      for (int parent = 0; parent <= 99; parent++) {
        boolean there = parent < words;
        BeforeTheEnd x = chain(words - 1);
        due("PARENT " + parent + " of " + words, Check.quiz(x, "w" + parent + ",1,1;"), there ? 1 : -2000);
        due("WORDS behind it", x.count(0), there ? words + 1 : words);
        if (there) due("PARENT told", x.word(words, 0), parent);
      }
    }
    for (int parent = 0; parent <= 9; parent++) {
      BeforeTheEnd x = chain(9);
      due("PARENT 0" + parent, Check.quiz(x, "w0" + parent + ",1,1;"), 1);
      due("PARENT that begins with 0", x.word(10, 0), parent);
    }
    quiz("w0,1,0;w1,1,0;w2,1,1;", 3);
    quiz("w0,1,0;w2,1,0;w1,1,1;", -2007);
    quiz("w1,1,0;w0,1,0;", -2000);
    quiz("w0,1,1;w1,1,1;", -2007);
    BeforeTheEnd x = Check.with("w0,1,1;");
    due("PARENT is an END of a QUIZ ahead", Check.quiz(x, "w1,1,1;"), -2000);
  }

  /** WORD 0 and so many, each the PARENT of the next; none is an END. */
  private static BeforeTheEnd chain(int words) {
    BeforeTheEnd x = new BeforeTheEnd();
    for (int w = 0; w < words; w++) Check.quiz(x, "w" + w + ",1,0;");
    return x;
  }

  // A WEIGHT (1 .. 9), an ANSWER (1 .. 9: it is an END; 0: it is none).
  private static void weightsAndAnswers() {
    for (int weight = 0; weight <= 9; weight++) {
      for (int answer = 0; answer <= 9; answer++) {
        BeforeTheEnd x = new BeforeTheEnd();
        due("WEIGHT " + weight, Check.quiz(x, "w0," + weight + "," + answer + ";"), weight > 0 ? 1 : -2000);
        if (weight == 0) continue;
        due("WEIGHT told", x.word(1, 1), weight);
        due("ANSWER told", x.word(1, 2), answer);
        due("ENDS", x.count(2), answer > 0 ? 1 : 0);
        due("whole", x.whole(), answer > 0 ? 1 : 0);
      }
    }
  }

  private static void playersKinds() {
    for (int kind = 0; kind < KINDS.length(); kind++) {
      BeforeTheEnd x = new BeforeTheEnd();
      due("KIND " + kind, Check.quiz(x, "p" + KINDS.charAt(kind) + "00:1;"), 1);
      due("KIND told", x.player(0, 0), kind);
    }
  }

  // A HAND (0 .. 9).
  private static void hands() {
    for (int hand = 0; hand <= 9; hand++) {
      BeforeTheEnd x = Check.with("pe" + hand + "00:1;");
      due("HAND", x.player(0, 1), hand);
    }
  }

  // SURE (0 .. 100 hundredths), of 1 to 3 digits; numbers may begin with 0.
  private static void sures() {
    for (int sure = 0; sure <= 999; sure++) {
      sure("" + sure, sure);
      if (sure <= 99) sure((sure <= 9 ? "0" : "") + sure, sure);
      if (sure <= 99) sure((sure <= 9 ? "00" : "0") + sure, sure);
    }
  }

  private static void sure(String digits, int sure) {
    BeforeTheEnd x = new BeforeTheEnd();
    due("SURE " + digits, Check.quiz(x, "ps9" + digits + ":1;"), sure <= 100 ? 1 : -2000);
    due("PLAYERS", x.count(1), sure <= 100 ? 1 : 0);
    if (sure <= 100) due("SURE told", x.player(0, 2), sure);
  }

  // 1 to 9 digits 1 .. 9.
  private static void knows() {
    for (int bits = 2; bits <= 1022; bits += 2) {
      String up = "";
      String down = "";
      for (int a = 1; a <= 9; a++) {
        if ((bits >> a & 1) == 1) {
          up = up + a;
          down = a + down;
        }
      }
      due("KNOWS " + up, Check.with("pe00:" + up + ";").player(0, 3), bits);
      due("KNOWS " + down, Check.with("pe00:" + down + ";").player(0, 3), bits);
    }
  }

  // An ANSWER told twice.
  private static void toldTwice() {
    for (int a = 1; a <= 9; a++) {
      int other = a % 9 + 1;
      quiz("pe00:" + a + a + ";", -2000);
      quiz("pe00:" + a + other + a + ";", -2000);
      quiz("pe00:" + other + a + a + ";", -2000);
      quiz("pe00:12345678" + a + ";", a == 9 ? 1 : -2000);
      quiz("pe00:" + a + "23456789;", a == 1 ? 1 : -2000);
    }
    quiz("pe00:1;pe00:1;", 2);
    BeforeTheEnd x = new BeforeTheEnd();
    due("told twice", Check.quiz(x, "pe00:11;"), -2000);
    due("the next one once", Check.quiz(x, "pe00:1;w0,1,1;"), 2);
    due("a digit too many", Check.quiz(x, "pe00:11"), -1007);
    due("the next one once, too", Check.quiz(x, "pe00:1;"), 1);
    quiz("pe00:11;pe00:1;", -2000);
  }

  private static void kindOneComesFirst() {
    quiz("w0,0,1;w", -1008);
    quiz("w9,1,1;w0,1,1;;", -1014);
    quiz("pe0101:1;pe00:10", -1015);
    quiz("pe00:11", -1007);
    quiz("pe00:1111111111;", -1014);
    quiz("pe00:111111111;", -2000);
    quiz("pe0999", -1006);
    quiz("pe09999:1;", -1006);
    quiz("w99,0,1", -1007);
  }

  private static void placeOfTheFirstStatementAtFault() {
    quiz("w0,1,1;w0,0,1;w0,1,1;", -2007);
    quiz("w00,1,1;w0,0,1;w9,1,1;", -2008);
    quiz("pe0100:123456789;w0,1,1;pe0101:1;", -2024);
    quiz("w0,1,1;w0,1,1;w0,1,1;w0,1,1;w0,1,1;w0,1,1;w0,1,1;w0,1,1;w0,0,1;", -2056);
    quiz("w0,1,1;w0,1,1;w0,1,1;w0,1,1;w0,1,1;w0,1,1;w0,1,1;w00,1,1;w0,0,1;", -2057);
    quiz("pe00:1;pe00:1;pe00:1;pe00:1;pe00:1;", -2028);
  }

  // Without FAULT all of it comes, with one nothing.
  private static void nothingComesByAFault() {
    String[] faults = {"w1,1,1;w0,1,1;pe00:1;w0,0,1;", "w1,1,1;w0,1,1;pe00:1;pe0101:1;", "w1,1,1;w0,1,1;pe00:1;x",
        "w1,1,1;pe00:1;w0,1,1", "w1,1,1;w2,1,1;", "pt00:1;pt00:1;pt00:1;pt00:1;pt00:1;"};
    for (String fault : faults) {
      BeforeTheEnd x = Check.with("w0,1,0;", "pt00:3;");
      String before = Check.state(x);
      due("a fault", Check.quiz(x, fault) < -999 ? 1 : 0, 1);
      Check.due("behind " + fault, Check.state(x), before);
      due("a WORD of it is no PARENT", Check.quiz(x, "w2,1,1;"), -2000);
      due("the next one", Check.quiz(x, "w1,5,7;"), 1);
      due("its number", x.word(2, 2), 7);
      due("its PARENT has one next", x.word(1, 4), 1);
    }
  }

  // WORDS 1 .. 23 come.
  private static void roomForWords() {
    for (int ahead = 15; ahead <= 23; ahead++) {
      for (int more = 1; more <= 8; more++) {
        BeforeTheEnd x = new BeforeTheEnd();
        for (int w = 0; w < ahead; w++) Check.quiz(x, "w0,1,1;");
        int want = ahead + more <= 23 ? more : -2000 - 7 * (23 - ahead);
        due(more + " WORDS behind " + ahead, Check.quiz(x, "w0,1,1;".repeat(more)), want);
        due("WORDS", x.count(0), 1 + ahead + (want > 0 ? more : 0));
      }
    }
    BeforeTheEnd x = chain(23);
    due("a PLAYER where no WORD may come", Check.quiz(x, "pe00:1;"), 1);
    due("a PLAYER and a WORD", Check.quiz(x, "pe00:1;w0,1,1;"), -2007);
    due("neither came", x.count(1), 1);
    due("a WORD of another PARENT", Check.quiz(x, "w23,1,1;"), -2000);
  }

  // PLAYERS (4 at most).
  private static void roomForPlayers() {
    for (int ahead = 0; ahead <= 4; ahead++) {
      for (int more = 1; more <= 5; more++) {
        BeforeTheEnd x = new BeforeTheEnd();
        for (int p = 0; p < ahead; p++) Check.quiz(x, "pe00:1;");
        int want = ahead + more <= 4 ? more : -2000 - 7 * (4 - ahead);
        due(more + " PLAYERS behind " + ahead, Check.quiz(x, "pe00:1;".repeat(more)), want);
        due("PLAYERS", x.count(1), ahead + (want > 0 ? more : 0));
      }
    }
    BeforeTheEnd x = Check.with("pe00:1;pe00:1;pe00:1;pe00:1;");
    due("a WORD where no PLAYER may come", Check.quiz(x, "w0,1,1;"), 1);
    due("a WORD and a PLAYER", Check.quiz(x, "w0,1,1;pe00:1;"), -2007);
    due("neither came", x.count(0), 2);
  }

  private static void mostStatements() {
    List<String> texts = new ArrayList<>(List.of("w0,1,1;".repeat(9), "w0,1,1;".repeat(8) + "w00,1,1;"));
    for (String text : texts) quiz(text, 9);
    quiz("w0,1,1;".repeat(5) + "pe00:1;".repeat(4), 9);
  }
}
