import java.nio.charset.StandardCharsets;
import java.nio.file.Files;
import java.nio.file.Path;
import java.util.ArrayList;
import java.util.List;

/** The calls that README.md shows, in its order, answer as it says beside them. */
public final class ReadmeTest {
  private static final Path README = Path.of("README.md");

  private final List<String> lines = new ArrayList<>();
  private final BeforeTheEnd x = new BeforeTheEnd();
  private int at = 0;

  private ReadmeTest() throws Exception {
    boolean inside = false;
    for (String line : Files.readAllLines(README, StandardCharsets.US_ASCII)) {
      if (line.startsWith("```")) inside = line.equals("```java");
      else if (inside && (line.startsWith("x.") || line.startsWith("feed("))) lines.add(line);
    }
  }

  public static void main(String[] args) throws Exception {
    new ReadmeTest().play();
    Check.exit("ReadmeTest");
  }

  private String nextLine() {
    String line = at < lines.size() ? lines.get(at) : "";
    at++;
    return line;
  }

  private void feeds(String text) {
    Check.due("line " + at, nextLine(), "feed(x, \"" + text + "\");");
    Check.feed(x, text);
  }

  private void says(String call, long answer) {
    String line = nextLine();
    int comment = line.indexOf("// ");
    if (comment < 0) {
      Check.fault(call + " stands without its answer: " + line);
      return;
    }
    Check.due("line " + at, line.substring(0, comment).trim(), "x." + call + ";");
    Check.due(call, line.substring(comment + 3).split("[^-0-9]")[0], String.valueOf(answer));
  }

  private void play() {
    feeds("w0,4,0;w0,2,0;w1,1,1;w1,1,2;w2,6,1;w2,3,3;");
    says("quiz()", x.quiz());
    feeds("ps350:123;pe1100:13;");
    says("quiz()", x.quiz());
    says("whole()", x.whole());
    says("chance(0, 1, 0)", x.chance(0, 1, 0));
    says("chance(0, 1, 1)", x.chance(0, 1, 1));
    for (int what = 0; what < 3; what++) says("run(6, " + what + ")", x.run(6, what));
    says("wins(0, 0)", x.wins(0, 0));
    says("wins(0, 1)", x.wins(0, 1));
    feeds("w0,1;");
    says("quiz()", x.quiz());
    feeds("w0,1,0;w3,1,1;");
    says("quiz()", x.quiz());
    says("count(0)", x.count(0));
    says("word(7, 0)", x.word(7, 0));
    says("wins(0, 2)", x.wins(0, 2));
    says("evening(0, 3, 0)", x.evening(0, 3, 0));
    says("count(11)", x.count(11));
    Check.due("lines of README.md", lines.size(), at);
  }
}
