/** Promise 9: UNDO. */
public final class UndoTest {
  public static void main(String[] args) {
    takingBack();
    boundaries();
    manyRecords();
    manySigns();
    justSoManySigns();
    places();
    Talk.end();
  }

  private static void takingBack() {
    Talk t = new Talk();
    t.is("(undo)", "nil");
    Talk.same("not modified", t.box.buffer(0, 2), 0);
    t.does("(insert \"abcdef\")");
    t.does("(delete-region 2 4) (goto-char 1) (insert \"xy\")");
    Talk.same("text", t.text(0), "xyadef");
    Talk.same("records", t.box.buffer(0, 3), 4);
    t.does("(set-modified nil) (goto-char 5)");
    t.is("(undo)", "t");
    Talk.same("all since the boundary", t.text(0), "abcdef");
    Talk.same("point behind what came back", t.box.buffer(0, 0), 4);
    Talk.same("modified", t.box.buffer(0, 2), 1);
    Talk.same("with its records", t.box.buffer(0, 3), 1);
    t.is("(undo)", "t");
    Talk.same("text", t.text(0), "");
    Talk.same("point", t.box.buffer(0, 0), 1);
    Talk.same("records", t.box.buffer(0, 3), 0);
    t.is("(undo)", "nil");
    t.does("(insert \"a\") (boundary) (insert \"b\") (boundary) (insert \"c\")");
    t.is("(list (undo) (region 1 (point-max)) (undo) (region 1 (point-max)) (undo) (undo) (point-max))", "(t \"ab\" t \"a\" t nil 1)");
    t.does("(insert \"abc\")");
    t.does("(goto-char 1)");
    t.does("(goto-char 2)");
    t.is("(undo)", "t");
    Talk.same("commands without a deed are no boundary", t.text(0), "");
  }

  private static void boundaries() {
    Talk t = new Talk();
    t.does("(boundary) (boundary)");
    Talk.same("never the first", t.box.buffer(0, 3), 0);
    t.does("(insert \"a\") (boundary) (boundary)");
    Talk.same("never two", t.box.buffer(0, 3), 2);
    t.does("");
    Talk.same("nor by a command", t.box.buffer(0, 3), 2);
    t.does("(insert \"b\")");
    t.does("");
    Talk.same("a command puts one", t.box.buffer(0, 3), 4);
    t.does("(set-buffer (buffer \"o\")) (insert \"1\")");
    t.does("(set-buffer \"o\") (insert \"2\")");
    Talk.same("only in the window's buffer", t.box.buffer(1, 3), 2);
    t.does("(set-buffer \"o\") (undo)");
    Talk.same("both at once", t.text(1), "");
  }

  private static void manyRecords() {
    Talk t = new Talk();
    t.does("(let ((n 0)) (while (< n 59) (setq n (+ n 1)) (insert (+ 40 n))))");
    Talk.same("records", t.box.buffer(0, 3), 59);
    t.does("");
    Talk.same("records", t.box.buffer(0, 3), 60);
    t.does("(insert \"x\")");
    Talk.same("the oldest went", t.box.buffer(0, 3), 60);
    t.does("(undo)");
    t.does("(undo)");
    // One went for x, one for the boundary of the first undo.
    Talk.same("two insertions could not be taken back", t.text(0), ")*");
    t = new Talk();
    t.does("(insert \"a\") (boundary) (let ((n 0)) (while (< n 58) (setq n (+ n 1)) (insert ?b)))");
    Talk.same("records", t.box.buffer(0, 3), 60);
    t.does("(insert \"c\")");
    // The command's boundary pushes out a and the boundary behind it; the insertion then has room.
    Talk.same("records", t.box.buffer(0, 3), 60);
    t.does("(insert \"d\")");
    Talk.same("records", t.box.buffer(0, 3), 60);
  }

  private static void manySigns() {
    Talk t = new Talk();
    t.does("(setq s \"0123456789\") (setq s (concat s s s s s s s s s s)) (insert s s s s s s s s s s)");
    t.does("(delete-region 1 1001)");
    t.does("(insert s s s s s s s s s s)");
    t.does("(delete-region 1 1001)");
    Talk.same("records", t.box.buffer(0, 3), 7);
    t.does("(insert \"x\") (delete-region 1 2)");
    // One sign more than 2000: the oldest go up to the first deletion, and the boundary behind it.
    Talk.same("records", t.box.buffer(0, 3), 6);
    t.does("(undo)");
    t.does("(undo)");
    Talk.same("back", t.box.buffer(0, 1), 1001);
    t.does("(undo)");
    Talk.same("back", t.box.buffer(0, 1), 1);
    t.is("(undo)", "nil");
    Talk.same("no more", t.box.buffer(0, 1), 1);
  }

  private static void justSoManySigns() {
    Talk t = new Talk();
    t.is("(boundary)", "nil");
    t.does("(setq s \"0123456789\") (setq s (concat s s s s s s s s s s))");
    for (int i = 0; i < 3; i++) {
      t.does("(insert s s s s s s s s s s)");
      t.does("(delete-region 1 1001)");
    }
    // I B D B I B D B I B D: the third deletion pushes out all up to the first, and the boundary behind it.
    Talk.same("records", t.box.buffer(0, 3), 7);
  }

  private static void places() {
    Talk t = new Talk();
    t.does("(insert \"abcdef\") (put-face 1 7 2)");
    t.does("(setq m (marker 3) n (marker 5) o (marker 3)) (marker-moves o t)");
    t.does("(delete-region 2 6)");
    t.is("(mapcar 'marker-place (list m n o))", "(2 2 2)");
    t.does("(undo)");
    t.is("(list (mapcar 'marker-place (list m n o)) (mapcar 'face '(1 2 5 6)))", "((2 2 6) (2 0 0 2))");
    t.does("(insert \"zz\")");
    t.does("(goto-char 1) (undo)");
    Talk.same("point where it was", t.box.buffer(0, 0), 6);
  }
}
