/** SHOWING, promises 6 and 7: lines, cuts, tabs, mode lines, bars, the message, the cursor and START at their edges. */
public final class EdgeShowTest {
  public static void main(String[] args) {
    signsAsTheyAre();
    tabs();
    tabsAtTheEdge();
    linesJustAsLong();
    wideSignsAtTheEdge();
    linesBesideABar();
    linesBelowTheWindow();
    startOfItsLine();
    pointsLineIsShown();
    halfAbove();
    eachWindowItsOwn();
    modeLines();
    modeLinesAreCut();
    barsOfLeftParts();
    facesOfColumns();
    theMessageRow();
    theCursor();
    theCursorAtTheEdge();
    whenItIsShown();
    Talk.end();
  }

  private static Talk with(int rows, int columns, String... codes) {
    Talk t = new Talk(rows, columns, 5000, 150);
    for (String code : codes) {
      t.does(code);
    }
    return t;
  }

  /** Signs below 32 and 127 as ^ and the sign with bit 6 turned, others as they are. */
  private static void signsAsTheyAre() {
    for (int sign = 0; sign < 128; sign++) {
      if (sign != 9 && sign != 10) {
        Talk t = with(6, 20, "(insert \"a\" " + sign + " \"b\")");
        String shown = sign < 32 || sign == 127 ? "^" + (char) (sign ^ 64) : "" + (char) sign;
        Talk.same("sign " + sign, t.row(0), "a" + shown + "b");
      }
    }
  }

  /** A tab as spaces up to the next column that is a multiple of 8. */
  private static void tabs() {
    for (int n = 0; n < 18; n++) {
      Talk t = with(6, 40, "(insert \"" + Talk.times("x", n) + "\\ty\")");
      Talk.same("a tab at " + n, t.row(0), Talk.times("x", n) + Talk.times(" ", 8 - n % 8) + "y");
      Talk.same("cursor", t.box.about(8), n + 8 - n % 8 + 1);
    }
    Talk t = with(6, 40, "(insert \"\\t\\ta\" 1 \"\\tb\")");
    Talk.same("behind others", t.row(0), "                a^A     b");
    // Columns are the window's own, wherever it lies.
    t = with(6, 40, "(insert \"a\\tb\") (split-right) (other-window) (split-right)");
    Talk.same("in each window", t.row(0), "a       b          |a       b|a       b");
  }

  private static void tabsAtTheEdge() {
    Talk t = with(6, 24, "(insert \"1234567890123456\\t\")");
    Talk.same("just to the edge", t.row(0), "1234567890123456");
    Talk.same("no $", t.box.shown(0, 23), ' ');
    t.does("(insert \"x\")");
    Talk.same("one more", t.row(0), "1234567890123456       $");
    t = with(6, 23, "(insert \"1234567890123456\\t\")");
    Talk.same("beyond the edge", t.row(0), "1234567890123456      $");
    t = with(6, 25, "(insert \"1234567890123456\\tx\")");
    Talk.same("one sign behind it", t.row(0), "1234567890123456        x");
  }

  /** Where a line goes beyond the window's columns it is cut, and the last is $; one just as long does not. */
  private static void linesJustAsLong() {
    for (int n = 18; n < 23; n++) {
      Talk t = with(6, 20, "(insert \"" + Talk.times("x", n) + "\\nnext\")");
      Talk.same("a line of " + n, t.row(0), n <= 20 ? Talk.times("x", n) : Talk.times("x", 19) + "$");
      Talk.same("the next one", t.row(1), "next");
    }
    Talk t = with(6, 20, "(insert \"" + Talk.times("x", 1500) + "\")");
    Talk.same("all in one line", t.row(0), Talk.times("x", 19) + "$");
    Talk.same("nothing below", t.row(1), "");
  }

  private static void wideSignsAtTheEdge() {
    Talk t = with(6, 20, "(insert \"" + Talk.times("x", 18) + "\" 1)");
    Talk.same("^A just has room", t.row(0), Talk.times("x", 18) + "^A");
    t = with(6, 20, "(insert \"" + Talk.times("x", 19) + "\" 1)");
    Talk.same("half of it has none", t.row(0), Talk.times("x", 19) + "$");
    t = with(6, 20, "(insert \"" + Talk.times("x", 18) + "\" 1 \"y\")");
    Talk.same("all of it, and one more", t.row(0), Talk.times("x", 18) + "^$");
    t = with(6, 20, "(insert \"" + Talk.times("x", 20) + "\" 1)");
    Talk.same("none of it", t.row(0), Talk.times("x", 19) + "$");
  }

  /** But for a bar. */
  private static void linesBesideABar() {
    Talk t = with(6, 20, "(insert \"123456789\\n1234567890\\n12345678901\\n\") (split-right)");
    Talk.same("nine", t.row(0), "123456789|123456789");
    Talk.same("ten", t.row(1), "12345678$|1234567890");
    Talk.same("eleven", t.row(2), "12345678$|123456789$");
    Talk.same("none", t.row(3), "         |");
  }

  /** Rows show lines from START on, one a row; else spaces. */
  private static void linesBelowTheWindow() {
    Talk t = with(6, 20, "(insert \"1\\n2\\n3\\n4\\n5\\n6\") (goto-char 1)");
    Talk.same("rows", t.row(0) + t.row(1) + t.row(2) + t.row(3), "1234");
    Talk.same("no fifth", t.row(4), "-* main L1 C0-------");
    Talk.same("nor in the message's row", t.row(5), "");
    Talk two = with(12, 40, "(insert \"" + Talk.times("x\\n", 30) + "\") (goto-char 1) (split-below) (split-right) (other-window) (show-buffer (buffer \"o\")) (other-window) (show-buffer \"o\")");
    for (int row = 0; row < 4; row++) {
      Talk.same("row " + row, two.row(row), "x                  |");
    }
    for (int row = 5; row < 10; row++) {
      Talk.same("nothing in the window below", two.row(row), "");
    }
    two.does("(other-window) (delete-other-windows) (split-right) (goto-char (point-max)) (insert \"" + Talk.times("y", 50) + "\") (other-window) (show-buffer \"o\")");
    Talk.same("nor in the one to the right", two.row(5), "yyyyyyyyyyyyyyyyyy$|");
    t.does("(delete-region 4 (point-max))");
    Talk.same("rows", t.row(0) + "," + t.row(1) + "," + t.row(2) + "," + t.row(3), "1,2,,");
    t.does("(goto-char (point-max)) (insert \"\\n\")");
    Talk.same("a line that is empty", t.box.about(7), 2);
    Talk.same("spaces of face 0", t.box.shown(2, 0), ' ');
  }

  /** START goes to the beginning of its line. */
  private static void startOfItsLine() {
    Talk t = with(8, 20, "(insert \"abc\\ndef\\nghi\\n\") (goto-char 5)");
    int[] want = {1, 1, 1, 1, 5, 5, 5, 5};
    for (int p = 1; p <= 8; p++) {
      t.does("(set-window-start " + p + ")");
      Talk.same("start " + p, t.box.window(0, 5), want[p - 1]);
    }
    t.does("(goto-char 13) (set-window-start 13)");
    Talk.same("the end", t.box.window(0, 5), 13);
    t.does("(set-window-start 9) (delete-region 8 9)");
    Talk.same("its line begins before it", t.box.window(0, 5), 5);
  }

  /** If its point's line is not one of the h - 1 from there on. */
  private static void pointsLineIsShown() {
    // h is 5: four lines are shown.
    Talk t = with(6, 20, "(insert \"1\\n2\\n3\\n4\\n5\\n6\\n7\\n8\\n9\") (goto-char 7) (set-window-start 5)");
    Talk.same("the second line", t.box.window(0, 5), 5);
    t.does("(goto-char 5)");
    Talk.same("the first line", t.box.window(0, 5), 5);
    t.does("(goto-char 6)");
    Talk.same("its end", t.box.window(0, 5), 5);
    t.does("(goto-char 11)");
    Talk.same("the fourth line", t.box.window(0, 5), 5);
    t.does("(goto-char 12)");
    Talk.same("its end", t.box.window(0, 5), 5);
    t.does("(goto-char 13)");
    Talk.same("the fifth is not shown", t.box.window(0, 5), 9);
    t.does("(set-window-start 5) (goto-char 4)");
    Talk.same("the one before is not shown", t.box.window(0, 5), 1);
  }

  /** START becomes the beginning of the line (h - 1) / 2 lines above point's, or 1. */
  private static void halfAbove() {
    int[] lines = {0, 0, 0, 0, 1, 1, 2, 2, 3, 3, 4};
    for (int rows = 4; rows <= 10; rows++) {
      Talk t = with(rows, 20, "(insert \"1\\n2\\n3\\n4\\n5\\n6\\n7\\n8\\n9\\n0\\n1\\n2\\n3\\n4\\n5\\n6\\n7\\n8\\n9\\n0\")");
      int above = (rows - 2) / 2;
      Talk.same("h " + (rows - 1), t.box.window(0, 5), 39 - 2 * above);
      Talk.same("cursor", t.box.about(7), above);
      Talk.same("lines above", above, lines[rows]);
    }
    Talk t = with(10, 20, "(insert \"1\\n2\\n3\\n4\\n5\\n6\\n7\\n8\\n9\\n0\\n1\\n2\\n3\\n4\\n5\\n6\\n7\\n8\\n9\\n0\")", "(goto-char 9)");
    Talk.same("just four lines above", t.box.window(0, 5), 1);
    t.does("(goto-char (point-max))");
    t.does("(goto-char 11)");
    Talk.same("four lines above", t.box.window(0, 5), 3);
    t.does("(goto-char (point-max))");
    t.does("(goto-char 3)");
    Talk.same("or 1", t.box.window(0, 5), 1);
    // Lines that are empty are lines, too.
    t = with(10, 20, "(insert \"" + Talk.times("\\n", 19) + "\")");
    Talk.same("four lines above", t.box.window(0, 5), 16);
    t.does("(goto-char 6)");
    Talk.same("four lines above", t.box.window(0, 5), 2);
    t.does("(goto-char (point-max))");
    t.does("(goto-char 5)");
    Talk.same("four lines above", t.box.window(0, 5), 1);
    t.does("(goto-char (point-max))");
    t.does("(goto-char 4)");
    Talk.same("or 1", t.box.window(0, 5), 1);
  }

  /** Of each window. */
  private static void eachWindowItsOwn() {
    Talk t = with(12, 20, "(insert \"1\\n2\\n3\\n4\\n5\\n6\\n7\\n8\\n9\\n0\\n1\\n2\") (goto-char 1) (split-below) (goto-char 21)");
    Talk.same("the selected one's", t.box.window(0, 5), 17);
    Talk.same("the other one's", t.box.window(1, 5), 1);
    Talk.same("upper", t.row(0), "9");
    Talk.same("lower", t.row(5), "1");
    t.does("(goto-char 1) (insert \"a\\nb\\n\")");
    Talk.same("the other one's stays where it is inserted", t.box.window(1, 5), 1);
    Talk.same("lower", t.row(5), "a");
    t.does("(other-window) (goto-char (point-max)) (other-window)");
    Talk.same("another window's point is shown, too", t.row(t.box.window(1, 0) + t.box.window(1, 2) - 1).startsWith("-* main L14 C1"), true);
  }

  /** - and *, space, name, L, line and C, column, then - to its end. */
  private static void modeLines() {
    Talk t = with(6, 30);
    Talk.same("not modified", t.row(4), "-- main L1 C0-----------------");
    t.does("(insert \"ab\\n\\tc\" 1)");
    Talk.same("in signs", t.row(4), "-* main L2 C3-----------------");
    t.does("(goto-char 1) (set-modified nil)");
    Talk.same("not modified", t.row(4), "-- main L1 C0-----------------");
    t.does("(goto-char 3)");
    Talk.same("at a line's end", t.row(4), "-- main L1 C2-----------------");
    t.does("(goto-char 4)");
    Talk.same("at a line's beginning", t.row(4), "-- main L2 C0-----------------");
    Talk.same("face 8", t.faces(4, 30), Talk.times("8", 30));
    t.does("(goto-char 1) (insert \"" + Talk.times("\\n", 99) + Talk.times("x", 100) + "\")");
    Talk.same("more digits", t.row(4), "-* main L100 C100-------------");
    // A window that is not selected has its own point.
    t = with(10, 30, "(insert \"ab\\nc\") (split-below) (goto-char 1) (set-buffer (buffer \"o\"))");
    Talk.same("upper", t.row(3), "-* main L1 C0-----------------");
    Talk.same("lower", t.row(8), "-* main L2 C1-----------------");
  }

  /** Cut, if it is longer. */
  private static void modeLinesAreCut() {
    for (int n = 8; n <= 14; n++) {
      String name = "abcdefghijklmnop".substring(0, n);
      Talk t = with(6, 20, "(show-buffer (buffer \"" + name + "\"))");
      String whole = "-- " + name + " L1 C0--------------------";
      Talk.same("a name of " + n, t.row(4), whole.substring(0, 20).stripTrailing());
    }
    Talk t = with(6, 20, "(show-buffer (buffer \"abcdefghijklmnopqrstuvwx\"))");
    Talk.same("a name beyond the edge", t.row(4), "-- abcdefghijklmnopq");
    t = with(6, 20, "(split-right)");
    Talk.same("each to its own end", t.row(4), "-- main L1-- main L1");
  }

  /** Windows whose right edge is that of a left part have a BAR in their last column, but for the mode line's row. */
  private static void barsOfLeftParts() {
    Talk t = with(14, 40, "(split-right)");
    for (int row = 0; row < 12; row++) {
      Talk.same("bar in row " + row, t.box.shown(row, 19), '|' + 1024);
      Talk.same("none in row " + row, t.box.shown(row, 39), ' ');
    }
    Talk.same("the mode line has none", t.box.shown(12, 19), '-' + 1024);
    Talk.same("the message's row has none", t.box.shown(13, 19), ' ');
    t.does("(split-below)");
    Talk.same("the upper left one", t.box.shown(0, 19), '|' + 1024);
    Talk.same("its mode line", t.box.shown(5, 19), '-' + 1024);
    Talk.same("which ends there", t.box.shown(5, 20), ' ');
    Talk.same("the lower left one", t.box.shown(6, 19), '|' + 1024);
    t = with(14, 40, "(split-below) (split-right)");
    Talk.same("the upper part alone is split", t.box.shown(0, 19), '|' + 1024);
    Talk.same("below it there is none", t.box.shown(6, 19), ' ');
    t = with(14, 40, "(split-right) (split-right)");
    Talk.same("two bars", t.row(0), "         |         |");
    t.does("(delete-other-windows)");
    Talk.same("none", t.row(0), "");
  }

  /** Each column has the face of its sign; $ has face 0. */
  private static void facesOfColumns() {
    Talk t = with(6, 20, "(insert \"a\\tb\" 1 \"c\\n" + Talk.times("x", 25) + "\") (put-face 1 2 1) (put-face 2 3 2) (put-face 3 4 3) (put-face 4 5 4) (put-face 7 32 7)");
    Talk.same("faces", t.faces(0, 14), "12222222344000");
    Talk.same("a cut line", t.faces(1, 20), Talk.times("7", 19) + "0");
    Talk.same("its $", t.box.shown(1, 19), '$');
    Talk.same("the greatest face", t.box.shown(1, 0), 'x' + 7 * 128);
    Talk.same("below the text", t.faces(2, 20), Talk.times("0", 20));
    t = with(6, 20, "(insert \"" + Talk.times("x", 20) + "\") (put-face 20 21 5)");
    Talk.same("just as long", t.faces(0, 20), Talk.times("0", 19) + "5");
  }

  /** The last row, face 0: the message, signs shown as in a window, cut (without $). */
  private static void theMessageRow() {
    Talk t = with(6, 20, "(message \"" + Talk.times("x", 20) + "\")");
    Talk.same("just as long", t.row(5), Talk.times("x", 20));
    t.does("(message \"" + Talk.times("x", 20) + "y\")");
    Talk.same("cut", t.row(5), Talk.times("x", 20));
    t.does("(message \"a\\tb\\nc\")");
    Talk.same("as in a window", t.row(5), "a       b^Jc");
    t.does("(message \"" + Talk.times("x", 19) + "\\n\")");
    Talk.same("half of it has room", t.row(5), Talk.times("x", 19) + "^");
    t.does("(message \"" + Talk.times("x", 16) + "\\ty\")");
    Talk.same("a tab beyond", t.row(5), Talk.times("x", 16));
    Talk.same("face 0", t.faces(5, 20), Talk.times("0", 20));
    t.does("(message \"\")");
    Talk.same("empty", t.row(5), "");
    t = with(6, 80, "(message \"" + Talk.times("0123456789", 30) + "\")");
    Talk.same("eighty of them", t.row(5), Talk.times("0123456789", 8));
    Talk.same("200 are kept", t.message(), Talk.times("0123456789", 20));
  }

  /** Where the selected window's point is shown, or would be. */
  private static void theCursor() {
    Talk t = with(8, 30, "(insert \"ab\\n\\tc\" 1 \"d\")");
    int[][] want = {{0, 0}, {0, 1}, {0, 2}, {1, 0}, {1, 8}, {1, 9}, {1, 11}, {1, 12}};
    for (int p = 1; p <= 8; p++) {
      t.does("(goto-char " + p + ")");
      Talk.same("row of " + p, t.box.about(7), want[p - 1][0]);
      Talk.same("column of " + p, t.box.about(8), want[p - 1][1]);
    }
    t = with(12, 40, "(insert \"abc\") (split-below) (split-right) (other-window)");
    Talk.same("row", t.box.about(7), 0);
    Talk.same("column", t.box.about(8), 23);
    t.does("(other-window)");
    Talk.same("row", t.box.about(7), 5);
    Talk.same("column", t.box.about(8), 3);
    t.does("(set-buffer (buffer \"o\"))");
    Talk.same("whatever is current", t.box.about(8), 3);
  }

  /** At most its last column but for a bar. */
  private static void theCursorAtTheEdge() {
    Talk t = with(6, 20, "(insert \"" + Talk.times("x", 30) + "\")");
    int[][] want = {{19, 18}, {20, 19}, {21, 19}, {22, 19}, {31, 19}};
    for (int[] pair : want) {
      t.does("(goto-char " + pair[0] + ")");
      Talk.same("column of " + pair[0], t.box.about(8), pair[1]);
    }
    t.does("(split-right)");
    int[][] beside = {{8, 7}, {9, 8}, {10, 8}, {11, 8}, {31, 8}};
    for (int[] pair : beside) {
      t.does("(goto-char " + pair[0] + ")");
      Talk.same("column of " + pair[0], t.box.about(8), pair[1]);
    }
    t.does("(other-window)");
    int[][] right = {{10, 19}, {11, 19}, {12, 19}, {9, 18}};
    for (int[] pair : right) {
      t.does("(goto-char " + pair[0] + ")");
      Talk.same("column of " + pair[0], t.box.about(8), pair[1]);
    }
    t = with(6, 20, "(insert \"" + Talk.times("x", 16) + "\\t\")");
    Talk.same("behind a tab that goes beyond", t.box.about(8), 19);
  }

  /** At the beginning and after each command. */
  private static void whenItIsShown() {
    Talk t = with(6, 20);
    Talk.same("at the beginning", t.row(4), "-- main L1 C0-------");
    t.does("(insert \"a\")");
    Talk.same("after a command", t.row(0), "a");
    t.fails("(insert \"b\") (car 5)", "wrong-type: 5");
    Talk.same("after one that ends by an error", t.row(0), "ab");
    Talk.same("and its message", t.row(5), "wrong-type: 5");
    t.feed("(insert \"c\")");
    Talk.same("not by feeding", t.row(0), "ab");
    t.box.load();
    Talk.same("but by loading", t.row(0), "abc");
  }
}
