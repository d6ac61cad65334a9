/** Promise 10: window, and the primitives on windows. */
public final class WindowTest {
  public static void main(String[] args) {
    asking();
    splitting();
    limits();
    goingRound();
    deleting();
    deletingInATree();
    deletingInADeepTree();
    points();
    showingBuffers();
    starts();
    Talk.end();
  }

  private static String areas(Talk t) {
    StringBuilder all = new StringBuilder();
    for (int k = 0; t.box.window(k, 0) != EditorBox.NONE; k++) {
      all.append(t.box.window(k, 0)).append(' ').append(t.box.window(k, 1)).append(' ').append(t.box.window(k, 2)).append(' ').append(t.box.window(k, 3));
      all.append(t.box.window(k, 7) == 1 ? "* " : " ").append(' ');
    }
    return all.toString().trim();
  }

  private static void asking() {
    Talk t = new Talk(10, 40, 5000, 150);
    int[] want = {0, 0, 9, 40, 0, 1, 1, 1};
    for (int what = 0; what < 8; what++) {
      Talk.same("what " + what, t.box.window(0, what), want[what]);
    }
    for (int what : new int[] {-1, 8, Integer.MIN_VALUE, Integer.MAX_VALUE}) {
      Talk.same("no such what", t.box.window(0, what), -1);
    }
    for (int k : new int[] {-1, 1, 6, 99, Integer.MIN_VALUE, Integer.MAX_VALUE}) {
      Talk.same("no such window", t.box.window(k, 0), -1);
    }
  }

  private static void splitting() {
    Talk t = new Talk(16, 40, 5000, 150);
    t.is("(list (other-window) (delete-window) (delete-other-windows))", "(nil nil nil)");
    t.is("(split-below)", "t");
    Talk.same("areas", areas(t), "0 0 7 40*  7 0 8 40");
    t.is("(split-right)", "t");
    Talk.same("areas", areas(t), "0 0 7 20*  0 20 7 20  7 0 8 40");
    t.is("(split-below)", "t");
    Talk.same("areas", areas(t), "0 0 3 20*  3 0 4 20  0 20 7 20  7 0 8 40");
    t.is("(list (split-below) (split-right))", "(nil t)");
    Talk.same("areas", areas(t), "0 0 3 10*  0 10 3 10  3 0 4 20  0 20 7 20  7 0 8 40");
    Talk.same("five", t.box.about(5), 5);
  }

  private static void limits() {
    Talk t = new Talk(7, 20, 5000, 150);
    t.is("(split-below)", "t");
    Talk.same("areas", areas(t), "0 0 3 20*  3 0 3 20");
    t = new Talk(6, 31, 5000, 150);
    t.is("(list (split-below) (split-right))", "(nil t)");
    Talk.same("areas", areas(t), "0 0 5 15*  0 15 5 16");
    t.is("(split-right)", "nil");
    t.does("(other-window)");
    t.is("(split-right)", "t");
    Talk.same("areas", areas(t), "0 0 5 15  0 15 5 8*  0 23 5 8");
    t = new Talk(40, 80, 5000, 150);
    t.is("(list (split-below) (split-right) (split-below) (split-right) (split-below) (split-right) (split-below))", "(t t t t t nil nil)");
    Talk.same("six", t.box.about(5), 6);
  }

  private static void goingRound() {
    Talk t = new Talk(20, 60, 5000, 150);
    t.does("(split-below) (split-right) (other-window) (other-window) (split-right)");
    Talk.same("areas", areas(t), "0 0 9 30  0 30 9 30  9 0 10 30*  9 30 10 30");
    t.does("(other-window)");
    Talk.same("the last", t.box.window(3, 7), 1);
    t.does("(other-window)");
    Talk.same("round", t.box.window(0, 7), 1);
  }

  private static void deleting() {
    Talk t = new Talk(16, 40, 5000, 150);
    t.does("(split-below)");
    t.is("(delete-window)", "t");
    Talk.same("the lower has all", areas(t), "0 0 15 40*");
    t.does("(split-right) (other-window) (delete-window)");
    Talk.same("the left has all", areas(t), "0 0 15 40*");
    t.does("(split-right) (split-below) (other-window) (other-window)");
    Talk.same("areas", areas(t), "0 0 7 20  7 0 8 20  0 20 15 20*");
    t.is("(delete-other-windows)", "t");
    Talk.same("alone", areas(t), "0 0 15 40*");
    Talk.same("one", t.box.about(5), 1);
    t.is("(delete-other-windows)", "nil");
    t.does("(split-below) (split-right) (split-below)");
    t.does("(delete-other-windows) (insert \"abc\") (setq ms nil) (while (< (length ms) 40) (setq ms (cons (marker 2) ms)))");
    t.does("(split-below) (split-right) (split-below) (delete-window) (delete-window) (delete-window)");
    t.does("(setq sum 0) (mapcar (lambda (m) (setq sum (+ sum (marker-place m)))) ms) (message (print sum))");
    Talk.same("markers stay where they are", t.message(), "80");
    t.does("(split-below) (split-right) (split-below)");
    Talk.same("nodes are used again", areas(t), "0 0 3 20*  3 0 4 20  0 20 7 20  7 0 8 40");
  }

  private static void deletingInATree() {
    Talk t = new Talk(22, 80, 5000, 150);
    // Upper: A; lower: left B over C, right D.
    t.does("(split-below) (other-window) (split-right) (split-below) (other-window) (other-window) (other-window)");
    Talk.same("areas", areas(t), "0 0 10 80*  10 0 5 40  15 0 6 40  10 40 11 40");
    t.does("(delete-window)");
    Talk.same("first parts keep what they had, the others grow", areas(t), "0 0 5 40*  5 0 16 40  0 40 21 40");
    t.does("(other-window) (delete-window)");
    Talk.same("areas", areas(t), "0 0 21 40*  0 40 21 40");
    t.does("(split-right) (other-window) (split-below) (other-window) (other-window) (delete-window)");
    Talk.same("areas", areas(t), "0 0 21 20*  0 20 10 60  10 20 11 60");
  }

  private static void deletingInADeepTree() {
    Talk t = new Talk(40, 80, 5000, 150);
    // A left; right of it B over C, C being D beside E, E being F over G.
    t.does("(split-right) (other-window) (split-below) (other-window) (split-right) (other-window) (split-below)");
    Talk.same("areas", areas(t), "0 0 39 40  0 40 19 40  19 40 20 20  19 60 10 20*  29 60 10 20");
    t.does("(insert \"1\\n2\\n3\\n4\\n5\\n6\\n7\\n8\\n9\\n0\\n\") (goto-char 19) (set-window-start 5)");
    Talk.same("start", t.box.window(3, 5), 5);
    t.does("(other-window) (goto-char 3) (other-window) (goto-char 1) (delete-window)");
    Talk.same("areas", areas(t), "0 0 19 80*  19 0 20 20  19 20 10 60  29 20 10 60");
    Talk.same("the other windows keep their starts", t.box.window(2, 5), 5);
    Talk.same("and points", t.box.window(2, 6), 19);
    Talk.same("and points", t.box.window(3, 6), 3);
    t.does("(goto-char 1) (insert \"0\\n\")");
    Talk.same("which go with the text", t.box.window(2, 5), 7);
    Talk.same("which go with the text", t.box.window(2, 6), 21);
    t.does("(other-window) (other-window) (delete-window)");
    Talk.same("areas", areas(t), "0 0 19 80  19 0 20 20  19 20 20 60*");
    t.does("(other-window) (other-window) (delete-window)");
    Talk.same("areas", areas(t), "0 0 19 80  19 0 20 80*");
  }

  private static void points() {
    Talk t = new Talk(16, 40, 5000, 150);
    t.does("(insert \"abcdef\") (split-below) (goto-char 2) (other-window)");
    Talk.same("the old one keeps its point", t.box.window(0, 6), 2);
    Talk.same("the new one has its own", t.box.window(1, 6), 7);
    Talk.same("it is its buffer's", t.box.buffer(0, 0), 7);
    t.does("(goto-char 1) (insert \"xy\")");
    Talk.same("a window's point goes with the text", t.box.window(0, 6), 4);
    t.does("(goto-char 4) (insert \"zz\")");
    Talk.same("not when it is there", t.box.window(0, 6), 4);
    t.does("(delete-region 1 3)");
    Talk.same("back", t.box.window(0, 6), 2);
    t.does("(other-window)");
    Talk.same("the buffer's point becomes it", t.box.buffer(0, 0), 2);
    t.does("(set-buffer (buffer \"o\")) (other-window)");
    Talk.same("its buffer is current", t.box.about(6), 0);
    t.does("(set-buffer \"o\") (split-below)");
    Talk.same("still current", t.box.about(6), 1);
    t.does("(show-buffer \"o\") (insert \"other\")");
    t.does("(delete-window)");
    Talk.same("the other one's buffer is current", t.box.about(6), 0);
    Talk.same("the buffer keeps its point", t.box.buffer(1, 0), 6);
  }

  private static void showingBuffers() {
    Talk t = new Talk(8, 40, 5000, 150);
    t.is("(list (show-buffer (buffer \"o\")) (current-buffer) (show-buffer \"main\"))", "(#buffer o #buffer o #buffer main)");
    t.fails("(show-buffer \"nosuch\")", "wrong-type: \"nosuch\"");
    t.does("(insert \"1\\n2\\n3\\n4\\n5\\n6\\n7\\n8\\n9\")");
    Talk.same("start", t.box.window(0, 5), 7 + 4);
    t.does("(show-buffer \"o\") (insert \"abc\") (goto-char 2)");
    Talk.same("buffer", t.box.window(0, 4), 1);
    Talk.same("start", t.box.window(0, 5), 1);
    Talk.same("point", t.box.window(0, 6), 2);
    t.does("(show-buffer \"main\") (goto-char 1)");
    t.does("(goto-char 9) (show-buffer \"main\")");
    Talk.same("start 1, the buffer's point", t.box.window(0, 6), 9);
    Talk.same("start", t.box.window(0, 5), 1);
  }

  private static void starts() {
    Talk t = new Talk(8, 40, 5000, 150);
    t.does("(insert \"1\\n2\\n3\\n4\\n5\\n6\\n7\\n8\\n9\") (goto-char 5)");
    t.is("(list (window-start) (set-window-start 4) (window-start))", "(1 4 4)");
    Talk.same("START goes to the line's beginning", t.box.window(0, 5), 3);
    t.is("(progn (set-window-start 7) (window-start))", "7");
    Talk.same("point's line is not shown: half above it", t.box.window(0, 5), 1);
    t.is("(let ((m (marker 3))) (eq m (set-window-start m)))", "t");
    t.fails("(set-window-start 99)", "out-of-range: 99");
    t.does("(set-buffer (buffer \"o\"))");
    t.is("(progn (set-buffer \"o\") (set-window-start 1))", "nil");
    Talk.same("stays", t.box.window(0, 5), 3);
    t.does("(goto-char 1) (insert \"0\\n\") (goto-char 7)");
    Talk.same("goes with the text", t.box.window(0, 5), 5);
    t.does("(delete-region 1 6)");
    Talk.same("goes back", t.box.window(0, 5), 1);
  }
}
