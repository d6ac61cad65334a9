/** Promises 8 and 9: sign and buffer, and the primitives on text. */
public final class BufferTest {
  public static void main(String[] args) {
    asking();
    buffers();
    inserting();
    deleting();
    moving();
    searching();
    markers();
    faces();
    Talk.end();
  }

  private static void asking() {
    Talk t = new Talk();
    t.does("(insert \"ab\\n\") (buffer \"second\")");
    Talk.same("sign 1", t.box.sign(0, 1), 'a');
    Talk.same("sign 3", t.box.sign(0, 3), 10);
    for (int p : new int[] {0, 4, -1, Integer.MIN_VALUE, Integer.MAX_VALUE}) {
      Talk.same("no sign", t.box.sign(0, p), -1);
    }
    for (int b : new int[] {-1, 2, 6, Integer.MIN_VALUE, Integer.MAX_VALUE}) {
      Talk.same("no buffer", t.box.sign(b, 1), -1);
      for (int what = -1; what < 7; what++) {
        Talk.same("no buffer", t.box.buffer(b, what), -1);
      }
    }
    Talk.same("empty", t.box.sign(1, 1), -1);
    int[] want = {4, 4, 1, 1, 4};
    for (int what = 0; what < 5; what++) {
      Talk.same("what " + what, t.box.buffer(0, what), want[what]);
    }
    int[] other = {1, 1, 0, 0, 6};
    for (int what = 0; what < 5; what++) {
      Talk.same("second, what " + what, t.box.buffer(1, what), other[what]);
    }
    Talk.same("no such what", t.box.buffer(0, 5), -1);
    Talk.same("no such what", t.box.buffer(0, -1), -1);
  }

  private static void buffers() {
    Talk t = new Talk();
    t.is("(list (buffer \"main\") (buffer \"b\") (eq (buffer \"b\") (buffer \"b\")) (buffer-name \"b\") (buffer-name (buffer \"b\")))",
        "(#buffer main #buffer b t \"b\" \"b\")");
    t.fails("(buffer \"\")", "out-of-range: \"\"");
    t.fails("(buffer \"abcdefghijklmnopqrstuvwxy\")", "out-of-range: \"abcdefghijklmnopqrstuvwxy\"");
    t.fails("(set-buffer \"nosuch\")", "wrong-type: \"nosuch\"");
    t.fails("(set-buffer 'b)", "wrong-type: b");
    t.fails("(buffer-name \"\")", "wrong-type: \"\"");
    t.is("(list (set-buffer \"b\") (current-buffer))", "(#buffer b #buffer b)");
    Talk.same("current stays", t.box.about(6), 1);
    t.does("");
    Talk.same("a command begins in the window's", t.box.about(6), 0);
    t.does("(buffer \"c\") (buffer \"d\") (buffer \"e\") (buffer \"f\")");
    Talk.same("six", t.box.about(4), 6);
    t.fails("(buffer \"g\")", "too-many-buffers");
    Talk names = new Talk();
    names.is("(list (buffer \"abcdefghijklmnopqrstuvwx\") (set-buffer \"abcdefghijklmnopqrstuvwx\"))", "(#buffer abcdefghijklmnopqrstuvwx #buffer abcdefghijklmnopqrstuvwx)");
    Talk.same("a long name", names.box.buffer(1, 4), 24);
    t.is("(buffer \"f\")", "#buffer f");
    t.does("(set-buffer \"f\") (insert \"in f\")");
    Talk.same("text", t.text(5), "in f");
    Talk.same("not in main", t.text(0), "");
    Talk.same("name", t.box.buffer(5, 4), 1);
  }

  private static void inserting() {
    Talk t = new Talk();
    t.is("(list (point) (point-max) (insert) (insert \"\") (modified))", "(1 1 nil nil nil)");
    Talk.same("no record", t.box.buffer(0, 3), 0);
    t.does("(insert \"ab\" 99 \"\" \"de\")");
    Talk.same("text", t.text(0), "abcde");
    Talk.same("one record", t.box.buffer(0, 3), 1);
    Talk.same("point", t.box.buffer(0, 0), 6);
    t.fails("(insert \"x\" 128)", "wrong-type: 128");
    t.fails("(insert \"x\" -1)", "wrong-type: -1");
    t.fails("(insert \"x\" 'a)", "wrong-type: a");
    Talk.same("nothing of it", t.text(0), "abcde");
    t.does("(goto-char 3) (insert \"XY\" 0 127)");
    Talk.same("text", t.text(0), "abXY\0\177cde");
    Talk.same("point", t.box.buffer(0, 0), 7);
    t.does("(delete-region 1 (point-max)) (setq s \"0123456789\") (setq s (concat s s s s s)) (setq s (concat s s s s s s))");
    t.does("(insert s s s s s)");
    Talk.same("full", t.box.buffer(0, 1), 1501);
    t.fails("(insert ?x)", "buffer-full");
    t.does("(insert \"\")");
    Talk.same("a key", t.box.key('x'), 2);
    Talk.same("message", t.message(), "buffer-full");
    t.does("(delete-region 1 2)");
    t.fails("(insert \"x\" \"y\")", "buffer-full");
    Talk.same("all or nothing", t.box.buffer(0, 1), 1500);
    t.does("(insert \"x\")");
    t.is("(list (modified) (set-modified nil) (modified) (set-modified 5) (modified))", "(t nil nil t t)");
  }

  private static void deleting() {
    Talk t = new Talk();
    t.does("(insert \"abcdef\") (set-modified nil)");
    t.is("(delete-region 3 3)", "nil");
    Talk.same("nothing", t.box.buffer(0, 2), 0);
    t.does("(goto-char 4) (delete-region 5 2)");
    Talk.same("text", t.text(0), "aef");
    Talk.same("point goes back", t.box.buffer(0, 0), 2);
    Talk.same("modified", t.box.buffer(0, 2), 1);
    t.fails("(delete-region 1 5)", "out-of-range: 5");
    t.fails("(delete-region 0 5)", "out-of-range: 0");
    t.is("(list (region 1 4) (region 3 1) (region 2 2))", "(\"aef\" \"ae\" \"\")");
    t.fails("(region 1 99)", "out-of-range: 99");
    t.does("(goto-char 4) (delete-region 1 2)");
    Talk.same("point goes back", t.box.buffer(0, 0), 3);
    t.does("(goto-char 1) (delete-region 2 3)");
    Talk.same("point stays", t.box.buffer(0, 0), 1);
  }

  private static void moving() {
    Talk t = new Talk();
    t.does("(insert \"one\\n\\nthree\")");
    t.is("(list (goto-char 1) (point) (goto-char 11) (point))", "(1 1 11 11)");
    t.is("(point-max)", "11");
    t.fails("(goto-char 12)", "out-of-range: 12");
    t.fails("(goto-char 0)", "out-of-range: 0");
    t.fails("(goto-char nil)", "wrong-type");
    t.is("(progn (goto-char 1) (list (char-after) (char-before) (char-after 4) (char-before 4) (char-after 11) (char-before 11) (char-after nil)))",
        "(111 nil 10 101 nil 101 111)");
    t.fails("(char-after 12)", "out-of-range: 12");
    t.is("(progn (set-buffer (buffer \"zero\")) (insert 0) (list (char-before) (char-after 1)))", "(0 0)");
    t.is("(mapcar (lambda (p) (goto-char p) (list (bolp) (eolp) (column) (line))) '(1 2 4 5 6 11))",
        "((t nil 0 1) (nil nil 1 1) (nil t 3 1) (t t 0 2) (t nil 0 3) (nil t 5 3))");
    t.is("(progn (goto-char 1) (list (forward-char) (point) (forward-char 3) (point) (forward-char -2) (point) (forward-char nil) (point) (forward-char 0)))",
        "(nil 2 nil 5 nil 3 nil 4 nil)");
    t.does("(forward-char 7)");
    Talk.same("just to the end", t.box.buffer(0, 0), 11);
    t.does("(forward-char -10)");
    Talk.same("just to 1", t.box.buffer(0, 0), 1);
    t.does("(goto-char 4)");
    t.fails("(forward-char 8)", "end-of-buffer");
    Talk.same("at the end", t.box.buffer(0, 0), 11);
    t.fails("(forward-char -11)", "beginning-of-buffer");
    Talk.same("at 1", t.box.buffer(0, 0), 1);
    t.is("(progn (goto-char 2) (list (forward-line) (point) (forward-line) (point) (forward-line) (point)))", "(0 5 0 6 1 11)");
    t.is("(progn (goto-char 8) (list (forward-line 0) (point) (forward-line -1) (point) (forward-line -1) (point) (forward-line -3) (point)))", "(0 6 0 5 0 1 3 1)");
    t.is("(progn (goto-char 2) (list (forward-line 9) (point) (forward-line -2) (point)))", "(7 11 0 1)");
    t.is("(progn (goto-char 2) (list (forward-line -134217728) (point) (forward-line 134217727)))", "(-134217728 1 134217725)");
    t.is("(progn (goto-char 8) (list (beginning-of-line) (point) (end-of-line) (point)))", "(nil 6 nil 11)");
    t.is("(progn (goto-char 2) (list (end-of-line) (point) (beginning-of-line) (point)))", "(nil 4 nil 1)");
    t.does("(goto-char (point-max)) (insert \"\\n\")");
    t.is("(progn (goto-char 7) (list (forward-line) (point) (forward-line) (point)))", "(0 12 1 12)");
  }

  private static void searching() {
    Talk t = new Talk();
    t.does("(insert \"abcabcab\")");
    t.is("(progn (goto-char 1) (list (search-forward \"bc\") (point) (search-forward \"bc\") (search-forward \"bc\" t) (point)))", "(4 4 7 nil 7)");
    t.fails("(search-forward \"bc\")", "search-failed: \"bc\"");
    t.fails("(search-forward \"bc\" nil)", "search-failed: \"bc\"");
    t.is("(list (search-backward \"bc\") (point) (search-backward \"bc\") (search-backward \"bc\" 1) (point))", "(5 5 2 nil 2)");
    t.is("(progn (goto-char 4) (list (search-backward \"bc\") (search-forward \"\") (search-backward \"\")))", "(2 2 2)");
    t.is("(progn (goto-char 3) (search-backward \"bc\" t))", "nil");
    t.is("(progn (goto-char 9) (list (search-forward \"\") (search-backward \"ab\") (search-forward \"ab\")))", "(9 7 9)");
    t.is("(search-forward \"" + Talk.times("a", 1900) + "\" t)", "nil");
    t.is("(progn (goto-char 1) (list (skip-forward \"ba\") (point) (skip-forward \"ba\") (skip-forward \"cab\") (point) (skip-forward \"abc\") (skip-forward \"\")))",
        "(2 3 0 6 9 0 0)");
  }

  private static void markers() {
    Talk t = new Talk();
    t.does("(insert \"abcdef\") (setq m (marker 3) n (marker 3) o (marker 4) p (marker 7))");
    t.is("(list (marker-moves n t) (marker-moves m nil) (marker-place m))", "(t nil 3)");
    t.does("(goto-char 3) (insert \"XY\")");
    t.is("(mapcar 'marker-place (list m n o p))", "(3 5 6 9)");
    t.does("(delete-region 4 7)");
    t.is("(list (region 1 (point-max)) (mapcar 'marker-place (list m n o p)))", "(\"abXef\" (3 4 4 6))");
    t.is("(list (goto-char m) (point) (region m p) (char-after o))", "(#marker 3 \"Xef\" 101)");
    t.is("(eq m (goto-char m))", "t");
    t.is("(eq m (set-marker m 5))", "t");
    t.is("(list (marker-place m) (eq (set-marker m n) m) (marker-place m))", "(5 t 4)");
    t.does("(set-buffer (buffer \"b\")) (insert \"0123456789\")");
    t.fails("(set-buffer \"b\") (goto-char m)", "wrong-type: #marker");
    t.fails("(set-buffer \"b\") (set-marker o m)", "wrong-type: #marker");
    t.is("(progn (set-buffer \"b\") (list (marker-place m) (eq m (set-marker m 9)) (goto-char m) (point)))", "(4 t #marker 9)");
    t.fails("(goto-char m)", "wrong-type: #marker");
    t.fails("(marker 99)", "out-of-range: 99");
    t.fails("(set-marker 5 1)", "wrong-type: 5");
    t.fails("(marker-place 5)", "wrong-type: 5");
    // whether it moves stays
    t.does("(set-marker n 1) (goto-char 1) (insert \"zz\")");
    t.is("(marker-place n)", "3");
    t.does("(marker-moves m t) (set-marker m 1) (goto-char 1) (insert \"w\")");
    t.is("(marker-place m)", "2");
    // a new one in place of one that is no more does not move
    t.does("(setq m nil n nil o nil p nil)");
    t.does("(setq q (marker 1) r (marker 1)) (goto-char 1) (insert \"y\")");
    t.is("(list (marker-place q) (marker-place r))", "(1 1)");
  }

  private static void faces() {
    Talk t = new Talk();
    t.does("(insert \"abcdef\") (set-modified nil)");
    t.is("(list (put-face 2 4 3) (mapcar 'face '(1 2 3 4 7)) (modified))", "(nil (0 3 3 0 0) nil)");
    Talk.same("no record but the boundaries", t.box.buffer(0, 3), 2);
    t.is("(progn (put-face 6 4 7) (put-face 1 1 5) (mapcar 'face '(1 2 3 4 5 6)))", "(0 3 3 7 7 0)");
    t.fails("(put-face 1 2 8)", "out-of-range: 8");
    t.fails("(put-face 1 2 -1)", "out-of-range: -1");
    t.fails("(face 8)", "out-of-range: 8");
    t.does("(goto-char 3) (insert \"xx\")");
    t.is("(mapcar 'face '(1 2 3 4 5 6 7 8))", "(0 3 0 0 3 7 7 0)");
    t.does("(delete-region 5 6)");
    t.is("(mapcar 'face '(1 2 3 4 5 6 7))", "(0 3 0 0 7 7 0)");
    t.does("(undo)");
    t.does("(undo)");
  }
}
