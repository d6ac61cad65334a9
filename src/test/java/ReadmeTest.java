import java.io.IOException;
import java.lang.reflect.Method;
import java.nio.file.Files;
import java.nio.file.Path;
import java.util.ArrayList;
import java.util.List;
import java.util.regex.Matcher;
import java.util.regex.Pattern;

/** The example of README.md: the same calls, each answer that it tells of them, and the grid that it shows. */
public final class ReadmeTest {
  private static final Pattern MADE = Pattern.compile("EditorBox box = new EditorBox\\((.*)\\);");
  private static final Pattern CALL = Pattern.compile("box\\.(\\w+)\\((.*)\\); *// ([^:]+)(:.*)?");
  private static final String[] FACE =
      {"feed", "end", "load", "key", "shown", "message", "sign", "buffer", "window", "about"};

  public static void main(String[] args) throws IOException, ReflectiveOperationException {
    List<String> lines = Files.readAllLines(Path.of("README.md"));
    int heading = lines.indexOf("### An example");
    List<String> example = block(lines, heading, "```java");
    EditorBox box = made(example.get(0));
    StringBuilder called = new StringBuilder();
    for (String line : example.subList(1, example.size())) {
      called.append(' ').append(call(box, line)).append(' ');
    }
    for (String name : FACE) {
      Talk.same("the example calls " + name, called.indexOf(" " + name + " ") >= 0, true);
      Talk.same("README.md tells of " + name, lines.stream().anyMatch(line -> line.startsWith("| `") && line.contains(" " + name + "(")), true);
    }
    Talk.same("the tape", textOf(example), String.join(" ", block(lines, heading, "```text")).replace("^X", "\u0018"));
    grid(box, block(lines, lines.indexOf("The grid shows then:"), "```text"));
    Talk.end();
  }

  /** The lines of the first block of that kind behind a line. */
  private static List<String> block(List<String> lines, int from, String kind) {
    List<String> found = new ArrayList<>();
    int at = Math.max(0, from);
    while (at < lines.size() && !lines.get(at).equals(kind)) {
      at++;
    }
    for (at++; at < lines.size() && !lines.get(at).equals("```"); at++) {
      found.add(lines.get(at));
    }
    Talk.same("README.md has a block " + kind, found.isEmpty(), false);
    return found;
  }

  private static EditorBox made(String line) {
    Matcher m = MADE.matcher(line);
    Talk.same("the example begins with an object: " + line, m.matches(), true);
    int[] n = numbers(m.group(1));
    return new EditorBox(n[0], n[1], n[2], n[3]);
  }

  /** Makes the call of a line and compares its answer; answers the method's name. */
  private static String call(EditorBox box, String line) throws ReflectiveOperationException {
    Matcher m = CALL.matcher(line);
    if (!m.matches()) {
      Talk.same("a call and its answer", line, "box.name(..);   // answer");
      return "";
    }
    int[] n = numbers(m.group(2));
    Class<?>[] kinds = new Class<?>[n.length];
    Object[] given = new Object[n.length];
    for (int i = 0; i < n.length; i++) {
      kinds[i] = int.class;
      given[i] = n[i];
    }
    Method method = EditorBox.class.getMethod(m.group(1), kinds);
    Object answer = method.invoke(box, given);
    String told = m.group(3).trim();
    Talk.same(line, answer instanceof Boolean ? answer.toString() : Long.toString(((Integer) answer).longValue()),
        answer instanceof Boolean ? told : Long.toString(sum(told)));
    return m.group(1);
  }

  private static int[] numbers(String text) {
    if (text.isEmpty()) {
      return new int[0];
    }
    String[] parts = text.split(", ");
    int[] all = new int[parts.length];
    for (int i = 0; i < parts.length; i++) {
      all[i] = sum(parts[i]);
    }
    return all;
  }

  private static int sum(String text) {
    int all = 0;
    for (String part : text.split(" \\+ ")) {
      int product = 1;
      for (String factor : part.split(" \\* ")) {
        product *= number(factor);
      }
      all += product;
    }
    return all;
  }

  private static int number(String text) {
    if (text.equals("NONE")) {
      return EditorBox.NONE;
    }
    return text.startsWith("'") ? text.charAt(1) : Integer.decode(text);
  }

  /** What the example feeds up to its first end. */
  private static String textOf(List<String> example) {
    StringBuilder all = new StringBuilder();
    for (String line : example) {
      Matcher m = CALL.matcher(line);
      if (m.matches() && m.group(1).equals("end")) {
        all.setLength(numbers(m.group(2))[0]);
        break;
      }
      if (m.matches() && m.group(1).equals("feed")) {
        for (int four : numbers(m.group(2))) {
          for (int shift = 24; shift >= 0; shift -= 8) {
            all.append((char) (four >> shift & 127));
          }
        }
      }
    }
    return all.toString();
  }

  private static void grid(EditorBox box, List<String> rows) {
    for (int row = 0; row < rows.size(); row++) {
      StringBuilder all = new StringBuilder();
      for (int column = 0; box.shown(row, column) != EditorBox.NONE; column++) {
        all.append((char) (box.shown(row, column) % 128));
      }
      Talk.same("row " + row, all.toString().stripTrailing(), rows.get(row));
    }
    Talk.same("no row more", box.shown(rows.size(), 0), EditorBox.NONE);
  }
}
