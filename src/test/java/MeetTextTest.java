/** Undo behind changes in several buffers; markers and faces behind changes and undo; windows that show one buffer twice. */
public final class MeetTextTest {
  public static void main(String[] args) {
    undoInSeveralBuffers();
    undoOfWhatAnErrorLeft();
    undoInAnExcursion();
    markersBehindUndo();
    facesBehindUndo();
    placesAtBothEnds();
    oneBufferTwice();
    twoPointsOfOneBuffer();
    startsThatGoWithTheText();
    undoUnderTwoWindows();
    showingOneOfTwo();
    deletingOneOfTwo();
    excursionsOverWindows();
    currentIsNotSelected();
    Talk.end();
  }

  /** A BOUNDARY is put in the buffer of the selected window alone; each buffer takes back its own. */
  private static void undoInSeveralBuffers() {
    Talk t = new Talk();
    t.does("(insert \"a1\") (set-buffer (buffer \"b\")) (insert \"b1\")");
    t.does("(insert \"a2\") (set-buffer \"b\") (insert \"b2\")");
    Talk.same("main: two and a boundary", t.box.buffer(0, 3), 3);
    Talk.same("b: two without one", t.box.buffer(1, 3), 2);
    t.is("(undo)", "t");
    Talk.same("the latest of main", t.text(0) + "," + t.text(1), "a1,b1b2");
    t.is("(progn (set-buffer \"b\") (undo))", "t");
    Talk.same("all of b", t.text(0) + "," + t.text(1), "a1,");
    t.is("(progn (set-buffer \"b\") (undo))", "nil");
    Talk.same("the boundary of main stays, since undo in b took none of it", t.box.buffer(0, 3), 2);
    t.is("(list (undo) (undo))", "(t nil)");
    Talk.same("main", t.text(0), "");
    t.does("(show-buffer \"b\") (insert \"b3\")");
    t.does("(insert \"b4\") (boundary) (boundary) (insert \"b5\") (set-buffer \"main\") (insert \"a3\")");
    Talk.same("b: now with its own boundaries", t.box.buffer(1, 3), 5);
    t.is("(list (undo) (region 1 (point-max)) (undo) (region 1 (point-max)))", "(t \"b3b4\" t \"b3\")");
    Talk.same("main", t.text(0), "a3");
  }

  /** What was done stays, and so do its records; a handled error puts no boundary. */
  private static void undoOfWhatAnErrorLeft() {
    Talk t = new Talk();
    t.fails("(insert \"ab\") (insert \"cd\") (car 1)", "wrong-type: 1");
    t.fails("(insert \"e\") (forward-char)", "end-of-buffer");
    t.is("(undo)", "t");
    Talk.same("the latest command", t.text(0), "abcd");
    t.is("(undo)", "t");
    Talk.same("the one before", t.text(0), "");
    t.does("(condition-case nil (progn (insert \"f\") (error \"x\")) (error (insert \"g\")))");
    t.does("(catch 'k (insert \"h\") (unwind-protect (throw 'k 1) (insert \"i\")))");
    t.does("(undo)");
    Talk.same("all of one command", t.text(0), "fg");
    t.keys("xy");
    t.does("(undo)");
    Talk.same("each key is a command", t.text(0), "fgx");
    t.fails("(progn (undo) (error \"stays undone\"))", "stays undone");
    Talk.same("undone", t.text(0), "fg");
  }

  /** Point is where the last of them was; an excursion brings it back, as far as the text goes with it. */
  private static void undoInAnExcursion() {
    Talk t = Talk.after("(insert \"one two\")");
    t.does("(delete-region 1 5)");
    t.does("(goto-char (point-max))");
    t.is("(list (point) (save-excursion (undo) (point)) (point))", "(4 5 8)");
    t.does("(goto-char 3)");
    t.is("(list (save-excursion (undo) (list (point) (point-max))) (point))", "((1 1) 1)");
    t.does("(set-buffer (buffer \"b\")) (insert \"xyz\")");
    t.is("(list (save-excursion (set-buffer \"b\") (undo)) (buffer-name (current-buffer)) (modified))", "(t \"main\" t)");
    Talk.same("b is empty", t.text(1), "");
    Talk.same("its point", t.box.buffer(1, 0), 1);
  }

  private static void markersBehindUndo() {
    Talk t = Talk.after("(insert \"abcdef\") (setq m (marker 4) mm (marker 4) at2 (marker 2) mm2 (marker 2) at5 (marker 5))",
        "(marker-moves mm t) (marker-moves mm2 t)");
    t.does("(delete-region 2 5)");
    t.is("(mapcar 'marker-place (list m mm at2 mm2 at5))", "(2 2 2 2 2)");
    t.does("(undo)");
    t.is("(mapcar 'marker-place (list m mm at2 mm2 at5))", "(2 5 2 5 2)");
    t.does("(goto-char 2) (insert \"12\")");
    t.is("(mapcar 'marker-place (list m mm at2 mm2 at5))", "(2 7 2 7 2)");
    t.does("(undo)");
    t.is("(mapcar 'marker-place (list m mm at2 mm2 at5))", "(2 5 2 5 2)");
    Talk.same("the text", t.text(0), "abcdef");
    t.does("(set-buffer (buffer \"b\")) (insert \"xy\") (set-marker mm 3)");
    t.does("(undo)");
    t.is("(marker-place mm)", "3");
    t.does("(set-buffer \"b\") (insert \"z\")");
    t.is("(marker-place mm)", "4");
    t.does("(set-buffer \"b\") (undo) (set-marker m 1)");
    t.is("(list (marker-place mm) (marker-place m))", "(1 1)");
  }

  /** Text that is inserted has face 0, also if undo brings it back; faces are no change. */
  private static void facesBehindUndo() {
    Talk t = Talk.after("(insert \"abcdef\") (put-face 1 7 3) (set-modified nil)");
    Talk.same("faces", t.faces(0, 7), "3333330");
    Talk.same("one record", t.box.buffer(0, 3), 1);
    t.does("(goto-char 3) (insert \"--\")");
    Talk.same("within", t.faces(0, 9), "330033330");
    t.does("(put-face 4 2 5) (delete-region 3 6)");
    Talk.same("deleted", t.faces(0, 6), "353330");
    Talk.same("its text", t.text(0), "abdef");
    t.does("(undo)");
    Talk.same("back with face 0", t.faces(0, 9), "350003330");
    t.does("(undo)");
    Talk.same("the insertion is taken back", t.faces(0, 7), "350333" + "0");
    Talk.same("the text", t.text(0), "abcdef");
    t.does("(undo)");
    t.does("(insert \"new\")");
    Talk.same("nothing of the old faces", t.faces(0, 4), "0000");
  }

  /** A place there goes on only if it is point or a marker that moves; one at either end of what is deleted is at its place. */
  private static void placesAtBothEnds() {
    Talk t = Talk.after("(insert \"abcd\") (setq p (marker 1) e (marker 5)) (goto-char 1) (insert \"<\")");
    t.is("(list (marker-place p) (marker-place e) (point))", "(1 6 2)");
    t.does("(goto-char (point-max)) (insert \">\")");
    t.is("(list (marker-place p) (marker-place e) (point) (point-max))", "(1 6 7 7)");
    t.does("(delete-region p e)");
    t.is("(list (marker-place p) (marker-place e) (point) (region 1 (point-max)))", "(1 1 2 \">\")");
    t.does("(marker-moves e t) (goto-char e) (insert ?1 \"\" \"2\")");
    t.is("(list (marker-place p) (marker-place e) (point) (region p e))", "(1 3 3 \"12\")");
  }

  private static void oneBufferTwice() {
    Talk t = new Talk(12, 30, 5000, 150);
    t.does("(insert \"one\\ntwo\\nthree\\n\") (goto-char 1) (split-below)");
    t.does("(other-window) (goto-char 7)");
    Talk.same("the upper one's mode line", t.row(4), "-* main L1 C0-----------------");
    Talk.same("the lower one's", t.row(10), "-* main L2 C2-----------------");
    Talk.same("the buffer's point is the selected one's", t.box.buffer(0, 0), 7);
    t.does("(goto-char 1) (insert \"0\\n\") (set-modified nil)");
    Talk.same("both show it, above", t.row(0), "0");
    Talk.same("and below", t.row(5), "0");
    Talk.same("the upper one's point was there: it stays", t.row(4), "-- main L1 C0-----------------");
    Talk.same("the lower one's is behind it", t.row(10), "-- main L2 C0-----------------");
    t.does("(put-face 1 2 6)");
    Talk.same("both have its face", t.box.shown(0, 0) + "," + t.box.shown(5, 0), ('0' + 6 * 128) + "," + ('0' + 6 * 128));
    Talk.same("the cursor is in the selected one", t.box.about(7), 6);
    t.does("(other-window)");
    Talk.same("there again", t.box.about(7), 0);
    Talk.same("its point is the buffer's now", t.box.buffer(0, 0), 1);
    Talk.same("the other keeps its own", t.box.window(1, 6), 3);
  }

  /** The old one keeps its point, the new one's buffer's point becomes the window's: one behind, there, within. */
  private static void twoPointsOfOneBuffer() {
    Talk t = Talk.after("(insert \"abcdefgh\") (goto-char 5) (split-below) (goto-char 3)");
    t.does("(insert \"xy\")");
    Talk.same("behind it", t.box.window(1, 6), 7);
    t.does("(goto-char 7) (insert \"z\")");
    Talk.same("there", t.box.window(1, 6), 7);
    t.does("(delete-region 4 9)");
    Talk.same("within", t.box.window(1, 6), 4);
    Talk.same("point", t.box.window(0, 6), 4);
    t.does("(other-window) (insert \"!\") (other-window)");
    Talk.same("each its own", t.box.window(0, 6) + "," + t.box.window(1, 6), "4,5");
    t.does("(delete-region 1 (point-max))");
    Talk.same("all gone", t.box.window(0, 6) + "," + t.box.window(1, 6), "1,1");
  }

  private static void startsThatGoWithTheText() {
    Talk t = new Talk(8, 30, 5000, 150);
    t.does("(insert \"1\\n2\\n3\\n4\\n5\\n6\\n7\\n\") (goto-char 9) (split-below) (set-window-start 9) (other-window) (set-window-start 9)");
    Talk.same("both from the fifth line on", t.row(0) + t.row(3), "55");
    t.does("(goto-char 1) (insert \"0\\n\")");
    Talk.same("the other one's start went with its text", t.box.window(0, 5), 11);
    Talk.same("it shows the same line", t.row(0), "5");
    Talk.same("the selected one goes where its point is", t.row(3), "0");
    t.does("(delete-region 1 13)");
    Talk.same("start and point were within", t.box.window(0, 5) + "," + t.box.window(0, 6), "1,1");
    Talk.same("both from the first line on", t.row(0) + t.row(3), "66");
    t.does("(undo)");
    Talk.same("what comes back at a start is shown", t.row(0), "0");
    Talk.same("the other one's point stays there", t.box.window(0, 5) + "," + t.box.window(0, 6), "1,1");
    Talk.same("the selected one's is behind it", t.box.window(1, 6), 13);
    Talk.same("and is shown", t.row(4) + "," + t.box.about(7), "6,4");
  }

  private static void undoUnderTwoWindows() {
    Talk t = Talk.after("(insert \"abc\") (split-below) (other-window)");
    t.does("(insert \"def\")");
    t.does("(other-window) (goto-char 2)");
    t.is("(undo)", "t");
    Talk.same("the selected one's point is where it was", t.box.window(0, 6), 4);
    Talk.same("the other one's went back", t.box.window(1, 6), 4);
    t.does("(other-window) (undo) (insert \"x\") (other-window)");
    Talk.same("both", t.box.window(0, 6) + "," + t.box.window(1, 6), "1,2");
  }

  /** The selected window shows it: START 1, the buffer's point; the other window and the old buffer's point stay. */
  private static void showingOneOfTwo() {
    Talk t = Talk.after("(insert \"main\") (split-below) (goto-char 2) (set-buffer (buffer \"b\")) (insert \"bb\")");
    t.does("(show-buffer \"b\")");
    Talk.same("the buffer's point", t.box.window(0, 6), 3);
    Talk.same("the other window", t.box.window(1, 4) + "," + t.box.window(1, 6), "0,5");
    Talk.same("main's point", t.box.buffer(0, 0), 2);
    t.does("(set-buffer \"main\") (goto-char 1) (insert \"12\")");
    Talk.same("the other window's point goes with the text", t.box.window(1, 6), 7);
    Talk.same("main's point is its own", t.box.buffer(0, 0), 3);
    t.does("(other-window)");
    Talk.same("until that window is selected", t.box.buffer(0, 0), 7);
    t.does("(show-buffer \"b\") (insert \"!\")");
    Talk.same("b twice", t.text(1), "bb!");
    Talk.same("the other one's point was there", t.box.window(0, 6), 3);
  }

  private static void deletingOneOfTwo() {
    Talk t = Talk.after("(insert \"abc\") (split-below) (goto-char 1)");
    t.is("(list (point) (delete-window) (point))", "(1 t 4)");
    t.does("(split-right) (goto-char 2)");
    t.is("(list (delete-other-windows) (point))", "(t 2)");
    t.does("(split-below) (show-buffer (buffer \"b\")) (insert \"b\")");
    t.is("(list (delete-window) (buffer-name (current-buffer)) (point))", "(t \"main\" 2)");
    Talk.same("b's point stays", t.box.buffer(1, 0), 2);
    t.does("(split-below) (other-window) (goto-char 4)");
    t.is("(list (set-buffer \"b\") (delete-other-windows) (buffer-name (current-buffer)))", "(#buffer b t \"b\")");
    Talk.same("the one that stays", t.box.window(0, 6), 4);
  }

  /** The current buffer is what it was, and its point where it was, whichever window is selected then. */
  private static void excursionsOverWindows() {
    Talk t = Talk.after("(insert \"abcdef\") (goto-char 2) (split-below) (other-window) (goto-char 6)");
    t.is("(list (save-excursion (other-window) (point)) (point))", "(2 6)");
    Talk.same("the upper one is selected, with the point that was", t.box.window(0, 6) + "," + t.box.window(0, 7), "6,1");
    Talk.same("the lower one kept its own", t.box.window(1, 6), 6);
    t.does("(goto-char 3) (show-buffer (buffer \"b\"))");
    t.is("(save-excursion (other-window) (goto-char 1) (buffer-name (current-buffer)))", "\"main\"");
    Talk.same("b is current then", t.box.about(6), 1);
    Talk.same("the lower one is selected", t.box.window(1, 7) + "," + t.box.window(1, 6), "1,1");
  }

  private static void currentIsNotSelected() {
    Talk t = Talk.after("(insert \"ab\") (set-buffer (buffer \"b\")) (insert \"12\\n34\")");
    t.is("(list (set-buffer \"b\") (split-below) (buffer-name (current-buffer)))", "(#buffer b t \"b\")");
    Talk.same("both show main", t.box.window(0, 4) + "," + t.box.window(1, 4), "0,0");
    t.is("(list (set-buffer \"b\") (set-window-start 2) (window-start) (other-window) (buffer-name (current-buffer)))",
        "(#buffer b nil 1 t \"main\")");
    t.is("(progn (set-buffer \"b\") (goto-char 1) (other-window) (point))", "3");
    Talk.same("b's point", t.box.buffer(1, 0), 1);
    t.does("(set-buffer \"b\")");
    Talk.same("the key goes to the selected one's buffer", t.box.key('!'), 1);
    Talk.same("main", t.text(0), "ab!");
    t.does("(set-buffer \"b\") (use-map (make-map)) (define-key global-map \"k\" 'current-buffer)");
    Talk.same("its map is not asked", t.box.key('k'), 1);
    Talk.same("it is current", t.box.about(6), 0);
  }
}
