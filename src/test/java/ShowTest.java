/** Promises 6 and 7: what the grid shows, the message, the cursor. */
public final class ShowTest {
  public static void main(String[] args) {
    asking();
    lines();
    cutting();
    scrolling();
    modeLines();
    bars();
    faces();
    messages();
    Talk.end();
  }

  private static void asking() {
    Talk t = new Talk(6, 24, 5000, 150);
    Talk.same("first", t.box.shown(0, 0), 32);
    Talk.same("last", t.box.shown(5, 23), 32);
    Talk.same("mode line, face 8", t.box.shown(4, 0), '-' + 8 * 128);
    for (int[] p : new int[][] {{-1, 0}, {0, -1}, {6, 0}, {0, 24}, {Integer.MAX_VALUE, 0}, {0, Integer.MIN_VALUE}}) {
      Talk.same("none such", t.box.shown(p[0], p[1]), -1);
    }
    Talk.same("no message", t.box.message(0), -1);
    t.does("(message \"ab\")");
    Talk.same("message", t.box.message(1), 'b');
    for (int i : new int[] {-1, 2, 200, Integer.MIN_VALUE, Integer.MAX_VALUE}) {
      Talk.same("none such", t.box.message(i), -1);
    }
  }

  private static void lines() {
    Talk t = new Talk(8, 24, 5000, 150);
    t.does("(insert \"a\\tb\\n1234567\\tc\\n12345678\\td\\n001\" 0 27 127 13 \"\\n\\nlast\")");
    Talk.same("a tab", t.row(0), "a       b");
    Talk.same("a tab at 7", t.row(1), "1234567 c");
    Talk.same("a tab at 8", t.row(2), "12345678        d");
    Talk.same("low signs", t.row(3), "001^@^[^?^M");
    Talk.same("a space is one", t.load("(goto-char (point-max)) (insert \" and more\")"), 1);
    Talk.same("last", t.row(5), "last and more");
    t.does("(delete-region (- (point-max) 9) (point-max))");
    Talk.same("an empty line", t.row(4), "");
    Talk.same("last", t.row(5), "last");
    Talk.same("cursor row", t.box.about(7), 5);
    Talk.same("cursor column", t.box.about(8), 4);
    t.does("(goto-char 3)");
    Talk.same("cursor behind a tab", t.box.about(8), 8);
    Talk.same("cursor row", t.box.about(7), 0);
    t.does("(goto-char 31)");
    Talk.same("cursor behind ^", t.box.about(8), 7);
  }

  private static void cutting() {
    Talk t = new Talk(8, 20, 5000, 150);
    t.does("(insert \"12345678901234567890\\n123456789012345678901\\n123456789012345678\\tx\\n1234567890123456789\" 1 \"\\n1234567890123456\\t\\n\")");
    Talk.same("just as long", t.row(0), "12345678901234567890");
    Talk.same("one more", t.row(1), "1234567890123456789$");
    Talk.same("a tab beyond", t.row(2), "123456789012345678 $");
    Talk.same("^ and what has no room", t.row(3), "1234567890123456789$");
    Talk.same("a tab beyond, nothing behind it", t.row(4), "1234567890123456   $");
    t.does("(goto-char 21)");
    Talk.same("at most the last column", t.box.about(8), 19);
    t.does("(goto-char 42)");
    Talk.same("at most the last column", t.box.about(8), 19);
    Talk.same("row", t.box.about(7), 1);
  }

  private static void scrolling() {
    Talk t = new Talk(8, 20, 5000, 150);
    // The window has 7 rows, 6 of them lines.
    t.does("(insert \"a\\nb\\nc\\nd\\ne\\nf\")");
    Talk.same("six lines fit", t.box.window(0, 5), 1);
    t.does("(insert \"\\ng\")");
    Talk.same("point's line is the seventh: three lines above it", t.box.window(0, 5), 7);
    Talk.same("row", t.row(0), "d");
    Talk.same("cursor", t.box.about(7), 3);
    t.does("(goto-char 5)");
    Talk.same("above: as far as there are lines", t.box.window(0, 5), 1);
    t.does("(goto-char (point-max)) (insert \"\\nh\\ni\\nj\\nk\\nl\\nm\")");
    Talk.same("start", t.box.window(0, 5), 19);
    t.does("(goto-char 17)");
    Talk.same("above", t.box.window(0, 5), 11);
    t.does("(goto-char 11)");
    Talk.same("point in START's own line", t.box.window(0, 5), 11);
    t.does("(goto-char 21)");
    Talk.same("point in the last line shown", t.box.window(0, 5), 11);
    t.does("(goto-char 17)");
    t.does("(delete-region 10 12)");
    Talk.same("in a line's midst: to its beginning", t.box.window(0, 5), 9);
    Talk.same("row", t.row(0), "e");
  }

  private static void modeLines() {
    Talk t = new Talk(8, 20, 5000, 150);
    Talk.same("new", t.row(6), "-- main L1 C0-------");
    t.does("(insert \"ab\\ncd\\tef\")");
    Talk.same("modified, column in signs", t.row(6), "-* main L2 C5-------");
    t.does("(set-modified nil) (goto-char 2)");
    Talk.same("not modified", t.row(6), "-- main L1 C1-------");
    t.does("(show-buffer (buffer \"abcdefghijklmnopqrst\"))");
    Talk.same("cut", t.row(6), "-- abcdefghijklmnopq");
    Talk.same("face", t.faces(6, 20), Talk.times("8", 20));
  }

  private static void bars() {
    Talk t = new Talk(12, 20, 5000, 150);
    t.does("(insert \"123456789\\n1234567890\\n12345678901\") (split-right)");
    Talk.same("just as long as there is room", t.row(0), "123456789|123456789");
    Talk.same("longer", t.row(1), "12345678$|1234567890");
    Talk.same("longer", t.row(2), "12345678$|123456789$");
    Talk.same("a bar below the text, too", t.row(9), "         |");
    Talk.same("none in the mode line", t.row(10), "-* main L3-* main L3");
    Talk.same("face of the bar", t.box.shown(0, 9), '|' + 1024);
    Talk.same("cursor but for the bar", t.box.about(8), 8);
    t.does("(split-below)");
    Talk.same("the upper left one has it", t.row(0), "123456789|123456789");
    Talk.same("the lower left one, too", t.row(6).charAt(9), '|');
    t.does("(other-window) (other-window)");
    Talk.same("cursor", t.box.about(8), 19);
    t.does("(delete-other-windows)");
    Talk.same("no bar", t.row(2), "12345678901");
  }

  private static void faces() {
    Talk t = new Talk(8, 20, 5000, 150);
    t.does("(insert \"ab\\tc\" 1 \"d\\n1234567890123456789012\") (put-face 2 4 3) (put-face 5 6 7) (put-face 8 30 2)");
    Talk.same("each column has its sign's", t.faces(0, 14), "03333333077000");
    Talk.same("row", t.row(0), "ab      c^Ad");
    Talk.same("$ has face 0", t.faces(1, 20), Talk.times("2", 19) + "0");
    Talk.same("sign and face", t.box.shown(0, 1), 'b' + 3 * 128);
  }

  private static void messages() {
    Talk t = new Talk(8, 20, 5000, 150);
    t.is("(message \"told\")", "\"told\"");
    t.does("(message \"a\\tb\\nc\177\")");
    Talk.same("message", t.message(), "a\tb\nc\177");
    Talk.same("as in a window", t.row(7), "a       b^Jc^?");
    Talk.same("face 0", t.faces(7, 20), Talk.times("0", 20));
    t.does("(message \"12345678901234567890123\")");
    Talk.same("cut without $", t.row(7), "12345678901234567890");
    t.does("(message \"1234567890123456789\\n\")");
    Talk.same("cut", t.row(7), "1234567890123456789^");
    t.does("(message \"" + Talk.times("x", 250) + "\")");
    Talk.same("200 signs", t.message().length(), 200);
    t.does("(message \"first\") (message \"second\")");
    Talk.same("the last one", t.message(), "second");
    t.does("5");
    Talk.same("empty at a command's beginning", t.message(), "");
    Talk.same("row", t.row(7), "");
    t.fails("(message \"kept?\") (car 5)", "wrong-type: 5");
    t.fails("(error \"" + Talk.times("y", 250) + "\")", Talk.times("y", 200));
    t.fails("(signal 'mine \"" + Talk.times("y", 250) + "\")", "mine: \"" + Talk.times("y", 193));
    t.fails("(error \"\")", "");
    t.fails("(message 5)", "wrong-type: 5");
  }
}
