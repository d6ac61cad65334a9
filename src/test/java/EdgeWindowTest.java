/** WINDOWS, promise 10: splits that can and can't be, six windows, deleting, points and starts. */
public final class EdgeWindowTest {
  public static void main(String[] args) {
    theFirstWindow();
    rowsOfASplit();
    columnsOfASplit();
    sixWindows();
    whatTheNewOneHas();
    alone();
    roundAndRound();
    deletedPlaces();
    keptRowsAndColumns();
    firstOfThatPart();
    aloneOverAll();
    pointsOfWindows();
    startsOfWindows();
    placesThatGo();
    showBuffer();
    windowStart();
    messages();
    Talk.end();
  }

  static String areas(Talk t) {
    StringBuilder all = new StringBuilder();
    for (int k = 0; t.box.window(k, 0) != EditorBox.NONE; k++) {
      all.append(k == 0 ? "" : ", ").append(t.box.window(k, 0)).append(' ').append(t.box.window(k, 1)).append(' ').append(t.box.window(k, 2)).append(' ')
          .append(t.box.window(k, 3)).append(t.box.window(k, 7) == 1 ? "*" : "");
    }
    return all.toString();
  }

  private static Talk sized(int rows, int columns) {
    return new Talk(rows, columns, 5000, 150);
  }

  /** At first one, R - 1 rows by C, showing buffer 0, whose name is "main". */
  private static void theFirstWindow() {
    int[][] sizes = {{4, 20}, {12, 34}, {40, 80}};
    for (int[] size : sizes) {
      Talk t = sized(size[0], size[1]);
      Talk.same("area", areas(t), "0 0 " + (size[0] - 1) + " " + size[1] + "*");
      Talk.same("buffer, start, point", t.box.window(0, 4) * 100 + t.box.window(0, 5) * 10 + t.box.window(0, 6), 11);
      Talk.same("windows", t.box.about(5), 1);
      t.is("(buffer-name (current-buffer))", "\"main\"");
    }
  }

  /** The upper one keeps h / 2 of its h rows (cut), at least 3, both. */
  private static void rowsOfASplit() {
    String[] want = {"", "", "", "", "no 3", "no 4", "no 5", "3 3", "3 4", "4 4", "4 5"};
    for (int rows = 4; rows <= 10; rows++) {
      Talk t = sized(rows, 40);
      if (want[rows].startsWith("no")) {
        t.declines("(split-below)");
        Talk.same("one", t.box.about(5), 1);
      } else {
        t.is("(split-below)", "t");
        Talk.same("rows " + rows, t.box.window(0, 2) + " " + t.box.window(1, 2), want[rows]);
        Talk.same("tops", t.box.window(0, 0) + " " + t.box.window(1, 0), "0 " + want[rows].charAt(0));
        Talk.same("columns", t.box.window(0, 3) + " " + t.box.window(1, 3), "40 40");
        Talk.same("the upper one stays selected", t.box.window(0, 7) - t.box.window(1, 7), 1);
      }
    }
    Talk t = sized(13, 40);
    t.is("(list (split-below) (split-below) (split-below))", "(t t nil)");
    Talk.same("areas", areas(t), "0 0 3 40*, 3 0 3 40, 6 0 6 40");
  }

  /** The left one keeps w / 2 of its w columns; both at least 8. */
  private static void columnsOfASplit() {
    Talk t = sized(10, 20);
    t.is("(list (split-right) (split-right))", "(t nil)");
    Talk.same("areas", areas(t), "0 0 9 10*, 0 10 9 10");
    t = sized(10, 31);
    t.is("(list (split-right) (split-right))", "(t nil)");
    Talk.same("areas", areas(t), "0 0 9 15*, 0 15 9 16");
    t.does("(other-window)");
    t.is("(split-right)", "t");
    Talk.same("areas", areas(t), "0 0 9 15, 0 15 9 8*, 0 23 9 8");
    t.declines("(split-right)");
    t = sized(10, 33);
    t.is("(list (split-right) (split-right) (split-right))", "(t t nil)");
    Talk.same("areas", areas(t), "0 0 9 8*, 0 8 9 8, 0 16 9 17");
    t = sized(10, 34);
    t.does("(split-right)");
    t.is("(list (split-right) (split-right))", "(t nil)");
    Talk.same("17 are 8 and 9", areas(t), "0 0 9 8*, 0 8 9 9, 0 17 9 17");
  }

  /** At most 6. */
  private static void sixWindows() {
    Talk t = sized(40, 80);
    t.is("(list (split-right) (split-below) (split-below) (split-right))", "(t t t t)");
    Talk.same("five", t.box.about(5), 5);
    t.is("(progn (other-window) (other-window) (split-right))", "t");
    Talk.same("six", t.box.about(5), 6);
    t.declines("(split-right)");
    t.declines("(split-below)");
    t.does("(other-window) (other-window) (other-window)");
    t.declines("(split-below)");
    Talk.same("the sixth", t.box.window(5, 3) > 0, true);
    Talk.same("no seventh", t.box.window(6, 3), -1);
    t.does("(delete-window)");
    t.is("(list (split-below) (split-below))", "(t nil)");
    for (int i = 0; i < 20; i++) {
      t.is("(list (delete-window) (split-right) (split-right))", "(t t nil)");
    }
    Talk.same("six", t.box.about(5), 6);
  }

  /** The new one shows the same buffer, from the same start, with the same point. */
  private static void whatTheNewOneHas() {
    Talk t = sized(10, 40);
    t.does("(show-buffer (buffer \"o\")) (insert \"1\\n2\\n3\\n4\\n5\\n6\\n7\\n8\\n9\\n\") (goto-char 9)");
    t.does("(set-window-start 5) (goto-char 9) (split-right)");
    for (int what = 4; what < 7; what++) {
      Talk.same("what " + what, t.box.window(1, what), t.box.window(0, what));
    }
    Talk.same("start", t.box.window(1, 5), 5);
    Talk.same("point", t.box.window(1, 6), 9);
    Talk.same("current stays", t.box.about(6), 1);
  }

  /** NIL if it is alone. */
  private static void alone() {
    for (String code : new String[] {"(other-window)", "(delete-window)", "(delete-other-windows)"}) {
      Talk t = sized(10, 40);
      t.does("(insert \"abc\") (goto-char 2)");
      t.declines(code);
      t.does("(set-buffer (buffer \"o\")) " + code);
      Talk.same("current stays", t.box.about(6), 1);
      t.does("(split-below)");
      t.is(code, "t");
    }
  }

  /** The next one as they lie: of a split the upper, left part before the other; round. */
  private static void roundAndRound() {
    Talk t = sized(40, 80);
    t.does("(split-below) (split-right) (other-window) (split-below) (other-window) (other-window) (split-right) (split-below)");
    Talk.same("areas", areas(t), "0 0 19 40, 0 40 9 40, 9 40 10 40, 19 0 10 40*, 29 0 10 40, 19 40 20 40");
    int[] next = {4, 5, 0, 1, 2, 3};
    for (int k : next) {
      t.does("(other-window)");
      Talk.same("selected", t.box.window(k, 7), 1);
    }
  }

  /** Its place goes to the other part of its split. */
  private static void deletedPlaces() {
    Talk t = sized(20, 40);
    t.does("(split-below) (delete-window)");
    Talk.same("to the lower", areas(t), "0 0 19 40*");
    t.does("(split-below) (other-window) (delete-window)");
    Talk.same("to the upper", areas(t), "0 0 19 40*");
    t.does("(split-right) (delete-window)");
    Talk.same("to the right", areas(t), "0 0 19 40*");
    t.does("(split-right) (other-window) (delete-window)");
    Talk.same("to the left", areas(t), "0 0 19 40*");
    t.does("(split-below) (split-right) (delete-window)");
    Talk.same("only its split's other part", areas(t), "0 0 9 40*, 9 0 10 40");
  }

  /** In it, of each split the first part keeps the rows or columns that it had. */
  private static void keptRowsAndColumns() {
    Talk t = sized(40, 80);
    t.does("(split-below) (other-window) (split-below) (split-right) (other-window) (other-window) (other-window)");
    Talk.same("areas", areas(t), "0 0 19 80*, 19 0 10 40, 19 40 10 40, 29 0 10 80");
    t.does("(delete-window)");
    Talk.same("the upper part keeps 10, the lower gets the rest", areas(t), "0 0 10 40*, 0 40 10 40, 10 0 29 80");
    t = sized(40, 80);
    t.does("(split-right) (split-right) (split-below) (other-window) (other-window) (other-window)");
    Talk.same("areas", areas(t), "0 0 19 20, 19 0 20 20, 0 20 39 20, 0 40 39 40*");
    t.does("(delete-window)");
    Talk.same("the left part keeps 20, the right gets the rest", areas(t), "0 0 19 20*, 19 0 20 20, 0 20 39 60");
    t = sized(40, 80);
    t.does("(split-right) (other-window) (split-right) (split-right) (other-window) (other-window) (other-window)");
    Talk.same("areas", areas(t), "0 0 39 40*, 0 40 39 10, 0 50 39 10, 0 60 39 20");
    t.does("(delete-window)");
    Talk.same("each first part keeps its own", areas(t), "0 0 39 10*, 0 10 39 10, 0 20 39 60");
  }

  /** The first window of that part is selected. */
  private static void firstOfThatPart() {
    Talk t = sized(40, 80);
    t.does("(insert \"abcdef\") (split-below) (other-window) (split-right) (goto-char 2) (other-window) (goto-char 3) (split-below) (goto-char 4) (other-window) (other-window)");
    Talk.same("areas", areas(t), "0 0 19 80*, 19 0 20 40, 19 40 10 40, 29 40 10 40");
    Talk.same("points", t.box.window(0, 6) * 1000 + t.box.window(1, 6) * 100 + t.box.window(2, 6) * 10 + t.box.window(3, 6), 7243);
    t.does("(delete-window)");
    Talk.same("areas", areas(t), "0 0 39 40*, 0 40 10 40, 10 40 29 40");
    Talk.same("the buffer's point becomes the window's", t.box.buffer(0, 0), 2);
    t.does("(delete-window)");
    Talk.same("areas", areas(t), "0 0 10 80*, 10 0 29 80");
    Talk.same("the buffer's point becomes the window's", t.box.buffer(0, 0), 4);
    t.does("(other-window) (delete-window)");
    Talk.same("areas", areas(t), "0 0 39 80*");
    Talk.same("the buffer's point becomes the window's", t.box.buffer(0, 0), 4);
  }

  private static void aloneOverAll() {
    Talk t = sized(40, 80);
    t.does("(insert \"abc\") (split-below) (split-right) (split-below) (other-window) (goto-char 2) (set-buffer (buffer \"o\"))");
    Talk.same("areas", areas(t), "0 0 9 40, 9 0 10 40*, 0 40 19 40, 19 0 20 80");
    t.does("(set-buffer \"o\") (delete-other-windows)");
    Talk.same("areas", areas(t), "0 0 39 80*");
    Talk.same("point", t.box.window(0, 6), 2);
    Talk.same("current stays", t.box.about(6), 1);
    t.declines("(delete-other-windows)");
    t.is("(list (split-below) (split-below) (split-below) (split-right) (split-right))", "(t t t t t)");
    Talk.same("six again", t.box.about(5), 6);
  }

  /** Where another is selected the old one keeps its point, the new one's buffer's point becomes the window's, and it is current. */
  private static void pointsOfWindows() {
    Talk t = sized(20, 40);
    t.does("(insert \"abcdef\") (split-below) (goto-char 2)");
    Talk.same("the selected one's is the buffer's", t.box.window(0, 6), 2);
    Talk.same("the other one's stays", t.box.window(1, 6), 7);
    t.does("(other-window)");
    Talk.same("the old one keeps its point", t.box.window(0, 6), 2);
    Talk.same("the buffer's is the new one's", t.box.buffer(0, 0), 7);
    t.does("(goto-char 5) (show-buffer (buffer \"o\"))");
    Talk.same("the buffer keeps its point", t.box.buffer(0, 0), 5);
    Talk.same("as the window does", t.box.window(0, 6), 2);
    t.does("(other-window)");
    Talk.same("the buffer's point becomes the window's", t.box.buffer(0, 0), 2);
    Talk.same("it is current", t.box.about(6), 0);
    t.does("(set-buffer \"o\") (insert \"xyz\") (other-window)");
    Talk.same("it is current", t.box.about(6), 1);
    Talk.same("the window's point, not where the text was put", t.box.buffer(1, 0), 1);
  }

  private static void startsOfWindows() {
    Talk t = sized(20, 40);
    t.does("(insert \"1\\n2\\n3\\n4\\n5\\n6\\n7\\n8\\n9\\n\") (goto-char 9) (split-below) (set-window-start 7)");
    Talk.same("start", t.box.window(0, 5), 7);
    Talk.same("the other one's stays", t.box.window(1, 5), 1);
    t.does("(other-window) (set-window-start 3)");
    Talk.same("start", t.box.window(1, 5), 3);
    Talk.same("the other one's stays", t.box.window(0, 5), 7);
  }

  /** START and point are places that go with the text as markers do. */
  private static void placesThatGo() {
    Talk t = sized(20, 40);
    t.does("(insert \"1\\n2\\n3\\n4\\n5\\n\") (goto-char 5) (split-below) (set-window-start 3) (other-window) (goto-char 1) (insert \"0\\n\")");
    Talk.same("start", t.box.window(0, 5), 5);
    Talk.same("point", t.box.window(0, 6), 7);
    t.does("(goto-char 5) (insert \"a\\n\")");
    Talk.same("start stays where it is inserted", t.box.window(0, 5), 5);
    Talk.same("point", t.box.window(0, 6), 9);
    t.does("(goto-char 9) (insert \"b\")");
    Talk.same("point stays where it is inserted", t.box.window(0, 6), 9);
    t.does("(delete-region 1 8)");
    Talk.same("start goes back", t.box.window(0, 5), 1);
    Talk.same("point goes back", t.box.window(0, 6), 2);
    t.does("(delete-region 1 (point-max))");
    Talk.same("point goes back", t.box.window(0, 6), 1);
  }

  /** START 1, the buffer's point. */
  private static void showBuffer() {
    Talk t = sized(8, 40);
    t.does("(set-buffer (buffer \"o\")) (insert \"1\\n2\\n3\\n4\\n5\\n6\\n7\\n8\\n9\\n\") (goto-char 5)");
    t.is("(list (show-buffer \"o\") (current-buffer) (window-start) (point))", "(#buffer o #buffer o 1 5)");
    Talk.same("buffer", t.box.window(0, 4), 1);
    Talk.same("point", t.box.window(0, 6), 5);
    t.does("(set-window-start 3)");
    Talk.same("start", t.box.window(0, 5), 3);
    t.is("(progn (show-buffer \"o\") (window-start))", "1");
    t.does("(split-below) (show-buffer \"main\")");
    Talk.same("the selected one", t.box.window(0, 4), 0);
    Talk.same("start", t.box.window(0, 5), 1);
    Talk.same("the other one", t.box.window(1, 4), 1);
    t.refuses("(show-buffer \"nosuch\")", "wrong-type: \"nosuch\"");
  }

  /** p, as it was given, if the selected window's buffer is current, else NIL. */
  private static void windowStart() {
    Talk t = sized(8, 40);
    t.does("(insert \"1\\n2\\n3\\n4\") (goto-char 3)");
    t.is("(list (set-window-start 1) (window-start) (set-window-start 8) (window-start) (set-window-start (marker 3)) (window-start))", "(1 1 8 8 #marker 3)");
    t.refuses("(set-window-start 0)", "out-of-range: 0");
    t.refuses("(set-window-start 9)", "out-of-range: 9");
    t.does("(set-buffer (buffer \"o\")) (insert \"12345\")");
    t.does("(setq got (progn (set-buffer \"o\") (list (set-window-start 3) (set-window-start 1))))");
    t.is("got", "(nil nil)");
    Talk.same("stays", t.box.window(0, 5), 3);
    t.fails("(set-buffer \"o\") (set-window-start 7)", "out-of-range: 7");
  }

  /** The message is its first 200 signs. */
  private static void messages() {
    for (int n : new int[] {0, 1, 199, 200, 201, 1500}) {
      Talk t = new Talk();
      t.does("(setq s \"" + Talk.times("x", n) + "\") (setq m (message s))");
      Talk.same("message of " + n, t.message().length(), Math.min(n, 200));
      t.is("(list (eq s m) (length m))", "(t " + n + ")");
    }
  }
}
