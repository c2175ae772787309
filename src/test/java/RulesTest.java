import java.io.IOException;
import java.nio.file.Files;
import java.nio.file.Path;
import java.util.HashSet;
import java.util.List;
import java.util.Set;
import java.util.regex.Matcher;
import java.util.regex.Pattern;

/** Those rules of LANGUAGE.md that can be seen in the lines of the file. Its path is the one argument. */
final class RulesTest {
  private static final Pattern METHOD = Pattern.compile("^( {2}| {4})(public|private) (?:static )?[a-z]+(?:\\[\\])* ([a-zA-Z]+)\\((.*)\\) \\{$");

  public static void main(String[] args) throws IOException {
    List<String> lines = Files.readAllLines(Path.of(args[0]));
    int classes = 0;
    for (int i = 0; i < lines.size(); i++) {
      String code = lines.get(i).replaceAll("//.*|/\\*\\*.*", "").replaceAll("\"[^\"]*\"|'[^']*'", "0");
      oneLine(i + 1, code);
      classes += code.matches(".*\\bclass\\b.*") ? 1 : 0;
    }
    Due.due("12 classes at most", classes <= 12 ? 1 : 0, 1);
    methods(lines);
    Due.end("RulesTest");
  }

  private static void oneLine(int number, String code) {
    String banned = ".*(\\b(throw|throws|try|catch|synchronized|assert|instanceof|enum|package|finally|yield|var|default ->)\\b|->|::|@|Exact\\b|\\bSystem\\.(?!arraycopy)).*";
    Due.due("line " + number + " with what the rules don't leave", code.matches(banned) ? 1 : 0, 0);
    if (code.startsWith("import")) {
      Due.due("line " + number + " imports", code.matches("import java\\.util\\.(Arrays|List|ArrayList);") ? 1 : 0, 1);
    }
    // All is made with the object, and used again: an act makes nothing.
    if (code.matches(".*\\bnew\\b.*")) {
      Due.due("line " + number + " makes something", code.matches(" +private final .* = new .*;") ? 1 : 0, 1);
    }
    if (code.matches(" +(public |private |protected )?static .*;")) {
      Due.due("line " + number + " holds static state", code.contains(" static final ") ? 1 : 0, 1);
    }
    if (code.matches(" {2}[a-z].*") && !code.matches(" {2}(public|private) .*")) {
      Due.due("line " + number + " is seen by the package", 1, 0);
    }
  }

  private static void methods(List<String> lines) {
    Set<String> open = new HashSet<>();
    Set<String> own = new HashSet<>();
    for (int i = 0; i < lines.size(); i++) {
      Matcher m = METHOD.matcher(lines.get(i));
      if (m.matches()) {
        (m.group(2).equals("public") ? open : own).add(m.group(3));
        int end = i;
        while (!lines.get(end).equals(m.group(1) + "}")) {
          end++;
        }
        Due.due(m.group(3) + " has 60 lines at most", end - i <= 60 ? 1 : 0, 1);
        Due.due(m.group(3) + " takes 7 at most", m.group(4).split(",").length <= 7 ? 1 : 0, 1);
      }
    }
    Due.due("public methods", open.size(), 50 - 1);
    for (String name : own) {
      Due.due("private " + name + " bears a public name", open.contains(name) ? 1 : 0, 0);
    }
  }
}
