/** PRIMITIVES on buffers: six of them, 1500 signs, places, moving, searching, markers and faces at their edges. */
public final class EdgeBufferTest {
  private static final String TEXT_500 = "(setq s \"0123456789\") (setq s (concat s s s s s)) (setq s (concat s s s s s s s s s s))";

  public static void main(String[] args) {
    namesOfBuffers();
    sixBuffers();
    namesThatAreNone();
    aFullBuffer();
    allOrNothing();
    eachBufferItsOwn();
    inserting();
    deleting();
    signsAround();
    lineEdges();
    forwardChar();
    forwardLine();
    forwardLineFar();
    searchForward();
    searchBackward();
    skipping();
    placesThatGo();
    markers();
    faces();
    modified();
    whatAnswersNil();
    stringsStay();
    Talk.end();
  }

  /** Names have 1 .. 24 signs: out-of-range s. */
  private static void namesOfBuffers() {
    String most = "abcdefghijklmnopqrstuvwx";
    Talk t = new Talk();
    t.is("(list (buffer \"a\") (buffer \"" + most + "\"))", "(#buffer a #buffer " + most + ")");
    Talk.same("name", t.box.buffer(1, 4), 1);
    Talk.same("name", t.box.buffer(2, 4), 24);
    t.refuses("(buffer \"\")", "out-of-range: \"\"");
    t.refuses("(buffer \"" + most + "y\")", "out-of-range: \"" + most + "y\"");
    Talk.same("buffers", t.box.about(4), 3);
    t.is("(list (buffer-name \"" + most + "\") (eq (buffer \"a\") (buffer \"a\")) (eq (buffer \"a\") (buffer \"A\")))", "(\"" + most + "\" t nil)");
    Talk.same("one more", t.box.about(4), 4);
  }

  /** At most 6: error too-many-buffers NIL. */
  private static void sixBuffers() {
    Talk t = Talk.after("(buffer \"a\") (buffer \"b\") (buffer \"c\") (buffer \"d\")");
    Talk.same("five", t.box.about(4), 5);
    t.does("(buffer \"e\")");
    Talk.same("six", t.box.about(4), 6);
    t.refuses("(buffer \"f\")", "too-many-buffers");
    t.is("(condition-case e (buffer \"f\") (too-many-buffers e))", "(too-many-buffers)");
    t.refuses("(buffer \"\")", "out-of-range: \"\"");
    t.refuses("(set-buffer \"f\")", "wrong-type: \"f\"");
    t.is("(list (buffer \"e\") (buffer \"main\") (set-buffer \"e\"))", "(#buffer e #buffer main #buffer e)");
    Talk.same("the sixth", t.box.buffer(5, 4), 1);
    Talk.same("no seventh", t.box.buffer(6, 4), -1);
  }

  /** The name of one; any other string is not of its kind. */
  private static void namesThatAreNone() {
    for (String word : new String[] {"set-buffer", "buffer-name", "show-buffer"}) {
      Talk t = Talk.after("(buffer \"a\")");
      for (String name : new String[] {"", "b", "mai", "mainx", "Main", "abcdefghijklmnopqrstuvwxyz"}) {
        t.refuses("(" + word + " \"" + name + "\")", "wrong-type: \"" + name + "\"");
      }
      t.does("(" + word + " \"a\") (" + word + " (buffer \"main\"))");
    }
  }

  /** At most 1500 signs: error buffer-full NIL. */
  private static void aFullBuffer() {
    Talk t = Talk.after(TEXT_500, "(insert s s (substring s 0 499))");
    Talk.same("end", t.box.buffer(0, 1), 1500);
    t.refuses("(insert \"ab\")", "buffer-full");
    t.does("(insert \"a\")");
    Talk.same("end", t.box.buffer(0, 1), 1501);
    t.refuses("(insert \"b\")", "buffer-full");
    t.refuses("(insert ?b)", "buffer-full");
    t.does("(insert) (insert \"\") (insert \"\" \"\")");
    t.is("(list (point) (point-max) (char-before) (char-after 1500) (char-after 1501))", "(1501 1501 97 97 nil)");
    Talk.same("a key, too", t.box.key('k'), 2);
    Talk.same("message", t.message(), "buffer-full");
    Talk.same("end", t.box.buffer(0, 1), 1501);
    t.is("(condition-case e (insert ?b) (buffer-full e))", "(buffer-full)");
    t.does("(delete-region 1 2) (insert ?b)");
    Talk.same("end", t.box.buffer(0, 1), 1501);
    t.does("(goto-char 1501)");
    t.refuses("(goto-char 1502)", "out-of-range: 1502");
    t.does("(put-face 1 1501 3)");
    t.is("(list (face 1500) (face 1501))", "(3 0)");
    t.does("(delete-region 1 (point-max))");
    Talk.same("end", t.box.buffer(0, 1), 1);
    t.does("(undo)");
    Talk.same("end", t.box.buffer(0, 1), 1501);
  }

  /** buffer-full is looked at for all of them first; all are one insertion, if there are any signs. */
  private static void allOrNothing() {
    Talk t = Talk.after(TEXT_500, "(insert s s) (insert (substring s 0 490))");
    t.refuses("(insert \"12345\" ?6 \"78901\")", "buffer-full");
    t.does("(insert \"12345\" ?6 \"7890\")");
    Talk.same("full", t.box.buffer(0, 1), 1501);
    t = Talk.after(TEXT_500);
    t.refuses("(insert s s s ?a)", "buffer-full");
    t.does("(insert s s s)");
    Talk.same("one record", t.box.buffer(0, 3), 1);
    t = Talk.after("(insert) (insert \"\") (insert \"\" \"\")");
    Talk.same("no record", t.box.buffer(0, 3), 0);
    Talk.same("not modified", t.box.buffer(0, 2), 0);
    t.does("(insert \"\" ?a \"\" \"bc\")");
    Talk.same("one record", t.box.buffer(0, 3), 1);
  }

  private static void eachBufferItsOwn() {
    Talk t = Talk.after(TEXT_500, "(insert s s s)", "(set-buffer (buffer \"o\")) (insert s s s)", "(set-buffer \"o\") (goto-char 3) (set-modified nil)");
    Talk.same("point", t.box.buffer(0, 0), 1501);
    Talk.same("point", t.box.buffer(1, 0), 3);
    Talk.same("modified", t.box.buffer(0, 2), 1);
    Talk.same("modified", t.box.buffer(1, 2), 0);
    t.does("(delete-region 1 1501)");
    Talk.same("end", t.box.buffer(0, 1), 1);
    Talk.same("end", t.box.buffer(1, 1), 1501);
  }

  /** Strings, and INTs 0 .. 127 (wrong-type else), put at point one behind the other. */
  private static void inserting() {
    Talk t = new Talk();
    t.does("(insert 0 127 \"a\" 10)");
    Talk.same("signs", t.box.sign(0, 1) + 1000 * t.box.sign(0, 2), 127000);
    Talk.same("point is behind them", t.box.buffer(0, 0), 5);
    t.refuses("(insert 128)", "wrong-type: 128");
    t.refuses("(insert -1)", "wrong-type: -1");
    t.refuses("(insert \"a\" 128)", "wrong-type: 128");
    t.does("(goto-char 1) (insert \"xy\")");
    Talk.same("at the beginning", t.text(0), "xy\0\177a\n");
    t.does("(goto-char 4) (insert \"-\")");
    Talk.same("in the midst", t.text(0), "xy\0-\177a\n");
    t.does("(goto-char (point-max)) (insert \"z\")");
    Talk.same("at the end", t.text(0), "xy\0-\177a\nz");
  }

  /** What is between them, in whatever order, if there is something. */
  private static void deleting() {
    Talk t = Talk.after("(insert \"abcdef\") (set-modified nil)");
    t.declines("(delete-region 3 3)");
    t.declines("(delete-region 1 1)");
    t.declines("(delete-region 7 7)");
    t.does("(delete-region 3 2)");
    Talk.same("text", t.text(0), "acdef");
    t.does("(delete-region 1 2)");
    Talk.same("text", t.text(0), "cdef");
    t.does("(delete-region 5 4)");
    Talk.same("text", t.text(0), "cde");
    t.is("(list (region 1 4) (region 4 1) (region 2 3) (region 1 1) (region 4 4))", "(\"cde\" \"cde\" \"d\" \"\" \"\")");
    t.does("(delete-region 4 1)");
    Talk.same("text", t.text(0), "");
    t.declines("(delete-region 1 1)");
    t.refuses("(delete-region 1 2)", "out-of-range: 2");
  }

  /** NIL at the end, at 1. */
  private static void signsAround() {
    Talk t = Talk.after("(insert \"ab\" 0)");
    t.is("(list (char-after 1) (char-after 2) (char-after 3) (char-after 4))", "(97 98 0 nil)");
    t.is("(list (char-before 1) (char-before 2) (char-before 3) (char-before 4))", "(nil 97 98 0)");
    t.is("(progn (goto-char 1) (list (char-before) (char-after)))", "(nil 97)");
    t.is("(progn (goto-char 4) (list (char-before) (char-after)))", "(0 nil)");
    new Talk().is("(list (char-before) (char-after) (char-before 1) (char-after 1))", "(nil nil nil nil)");
  }

  /** bolp: at 1 or behind a 10; eolp: at the end or before a 10; column, line. */
  private static void lineEdges() {
    Talk t = Talk.after("(insert \"ab\\n\\ncd\")");
    t.is("(mapcar (lambda (p) (goto-char p) (bolp)) '(1 2 3 4 5 6 7))", "(t nil nil t t nil nil)");
    t.is("(mapcar (lambda (p) (goto-char p) (eolp)) '(1 2 3 4 5 6 7))", "(nil nil t t nil nil t)");
    t.is("(mapcar (lambda (p) (goto-char p) (column)) '(1 2 3 4 5 6 7))", "(0 1 2 0 0 1 2)");
    t.is("(mapcar (lambda (p) (goto-char p) (line)) '(1 2 3 4 5 6 7))", "(1 1 1 2 3 3 3)");
    t.is("(mapcar (lambda (p) (goto-char p) (beginning-of-line) (point)) '(1 2 3 4 5 6 7))", "(1 1 1 4 5 5 5)");
    t.is("(mapcar (lambda (p) (goto-char p) (end-of-line) (point)) '(1 2 3 4 5 6 7))", "(3 3 3 4 7 7 7)");
    t.does("(goto-char 7) (insert \"\\n\")");
    t.is("(list (point) (bolp) (eolp) (column) (line))", "(8 t t 0 4)");
    new Talk().is("(list (bolp) (eolp) (column) (line) (beginning-of-line) (end-of-line) (point))", "(t t 0 1 nil nil 1)");
    t = Talk.after("(insert \"\\n\\nab\")");
    t.is("(mapcar (lambda (p) (goto-char p) (list (line) (column) (bolp) (eolp))) '(1 2 3 4))", "((1 0 t t) (2 0 t t) (3 0 t nil) (3 1 nil nil))");
    // Only 10 is a line end here.
    t = Talk.after("(insert \"a\" 13 \"b\" 9 \"c\")");
    t.is("(list (line) (column))", "(1 5)");
  }

  /** At most to the end, or 1, error end-of-buffer, beginning-of-buffer NIL if it would go on. */
  private static void forwardChar() {
    Talk t = Talk.after("(insert \"abc\") (goto-char 2)");
    t.is("(list (forward-char 2) (point) (forward-char -3) (point) (forward-char 3) (point) (forward-char 0) (point))", "(nil 4 nil 1 nil 4 nil 4)");
    t.fails("(forward-char)", "end-of-buffer");
    t.fails("(goto-char 2) (forward-char 3)", "end-of-buffer");
    Talk.same("it went to the end", t.box.buffer(0, 0), 4);
    t.fails("(goto-char 3) (forward-char -3)", "beginning-of-buffer");
    Talk.same("it went to 1", t.box.buffer(0, 0), 1);
    t.fails("(forward-char -1)", "beginning-of-buffer");
    t.fails("(forward-char 134217727)", "end-of-buffer");
    Talk.same("it went to the end", t.box.buffer(0, 0), 4);
    t.fails("(forward-char -134217728)", "beginning-of-buffer");
    Talk.same("it went to 1", t.box.buffer(0, 0), 1);
    t.is("(list (condition-case e (forward-char 9) (end-of-buffer e)) (condition-case e (forward-char -9) (beginning-of-buffer e)))",
        "((end-of-buffer) (beginning-of-buffer))");
    t = new Talk();
    t.does("(forward-char 0)");
    t.refuses("(forward-char 1)", "end-of-buffer");
    t.refuses("(forward-char -1)", "beginning-of-buffer");
  }

  /** As far as it can, then the end, or 1: how many lines it could not. */
  private static void forwardLine() {
    Talk t = Talk.after("(insert \"ab\\ncd\\nef\")", "(defun go (from n) (goto-char from) (list (forward-line n) (point)))");
    t.is("(mapcar (lambda (n) (go 2 n)) '(0 1 2 3 4 9))", "((0 1) (0 4) (0 7) (1 9) (2 9) (7 9))");
    t.is("(mapcar (lambda (n) (go 8 n)) '(0 -1 -2 -3 -4 -9))", "((0 7) (0 4) (0 1) (1 1) (2 1) (7 1))");
    t.is("(mapcar (lambda (n) (go 5 n)) '(0 1 2 -1 -2))", "((0 4) (0 7) (1 9) (0 1) (1 1))");
    t.is("(mapcar (lambda (p) (go p 1)) '(1 3 4 6 7 9))", "((0 4) (0 4) (0 7) (0 7) (1 9) (1 9))");
    t.is("(mapcar (lambda (p) (go p -1)) '(1 3 4 6 7 9))", "((1 1) (1 1) (0 1) (0 1) (0 4) (0 4))");
    t.does("(goto-char (point-max)) (insert \"\\n\")");
    t.is("(list (go 8 1) (go 8 2) (go 10 1) (go 10 -1) (go 10 0))", "((0 10) (1 10) (1 10) (0 7) (0 10))");
    new Talk().is("(list (forward-line) (forward-line 0) (forward-line -1) (point))", "(1 0 1 1)");
    t = Talk.after("(insert \"\\n\\n\\na\")", "(defun go (from n) (goto-char from) (list (forward-line n) (point)))");
    t.is("(list (go 2 -1) (go 3 -2) (go 4 -3) (go 5 -4) (go 1 1) (go 1 3) (go 1 4))", "((0 1) (0 1) (0 1) (1 1) (0 2) (0 4) (1 5))");
  }

  /** 134217728 of them wraps to -134217728. */
  private static void forwardLineFar() {
    Talk t = Talk.after("(insert \"ab\\ncd\")");
    t.is("(progn (goto-char 1) (list (forward-line -134217728) (point)))", "(-134217728 1)");
    t.is("(progn (goto-char 1) (list (forward-line -134217727) (point)))", "(134217727 1)");
    t.is("(progn (goto-char 5) (list (forward-line -134217728) (point)))", "(134217727 1)");
    t.is("(progn (goto-char 1) (list (forward-line 134217727) (point)))", "(134217726 6)");
    t.is("(progn (goto-char 5) (list (forward-line 134217727) (point)))", "(134217727 6)");
  }

  /** Point goes behind the first place from it on where s stands (an empty one does everywhere). */
  private static void searchForward() {
    Talk t = Talk.after("(insert \"abcabc\")", "(defun find (from s) (goto-char from) (list (search-forward s t) (point)))");
    t.is("(mapcar (lambda (p) (find p \"abc\")) '(1 2 4 5 7))", "((4 4) (7 7) (7 7) (nil 5) (nil 7))");
    t.is("(mapcar (lambda (p) (find p \"c\")) '(1 3 4 6 7))", "((4 4) (4 4) (7 7) (7 7) (nil 7))");
    t.is("(mapcar (lambda (p) (find p \"\")) '(1 4 7))", "((1 1) (4 4) (7 7))");
    t.is("(list (find 1 \"abcabc\") (find 1 \"abcabca\") (find 2 \"abcabc\") (find 1 \"bca\") (find 1 \"acb\"))", "((7 7) (nil 1) (nil 2) (5 5) (nil 1))");
    t.refuses("(search-forward \"x\")", "search-failed: \"x\"");
    t = Talk.after("(insert \"aaa\")", "(defun find (from s) (goto-char from) (list (search-forward s t) (point)))");
    t.is("(list (find 1 \"aa\") (find 2 \"aa\") (find 3 \"aa\"))", "((3 3) (4 4) (nil 3))");
    new Talk().is("(list (search-forward \"\") (search-forward \"a\" t) (point))", "(1 nil 1)");
  }

  /** Point goes before the last place that ends at or before it where s stands. */
  private static void searchBackward() {
    Talk t = Talk.after("(insert \"abcabc\")", "(defun find (from s) (goto-char from) (list (search-backward s t) (point)))");
    t.is("(mapcar (lambda (p) (find p \"abc\")) '(7 6 4 3 1))", "((4 4) (1 1) (1 1) (nil 3) (nil 1))");
    t.is("(mapcar (lambda (p) (find p \"a\")) '(7 5 4 2 1))", "((4 4) (4 4) (1 1) (1 1) (nil 1))");
    t.is("(mapcar (lambda (p) (find p \"\")) '(1 4 7))", "((1 1) (4 4) (7 7))");
    t.is("(list (find 7 \"abcabc\") (find 7 \"xabcabc\") (find 6 \"abcabc\") (find 7 \"cab\") (find 7 \"cba\"))", "((1 1) (nil 7) (nil 6) (3 3) (nil 7))");
    t.refuses("(search-backward \"x\")", "search-failed: \"x\"");
    t = Talk.after("(insert \"aaa\")", "(defun find (from s) (goto-char from) (list (search-backward s t) (point)))");
    t.is("(list (find 4 \"aa\") (find 3 \"aa\") (find 2 \"aa\"))", "((2 2) (1 1) (nil 2))");
    new Talk().is("(list (search-backward \"\") (search-backward \"a\" t) (point))", "(1 nil 1)");
  }

  private static void skipping() {
    Talk t = Talk.after("(insert \"aabbc\")", "(defun skip (from s) (goto-char from) (list (skip-forward s) (point)))");
    t.is("(list (skip 1 \"a\") (skip 1 \"ba\") (skip 1 \"cba\") (skip 1 \"b\") (skip 1 \"\") (skip 6 \"abc\") (skip 5 \"c\"))", "((2 3) (4 5) (5 6) (0 1) (0 1) (0 6) (1 6))");
    new Talk().is("(list (skip-forward \"a\") (point))", "(0 1)");
  }

  /** A place behind goes on, one there only if it is point or a marker that moves; behind, or within, what is deleted: back. */
  private static void placesThatGo() {
    Talk t = Talk.after("(insert \"abcdef\") (setq l (mapcar 'marker '(1 2 3 4 5 6 7)) w (mapcar 'marker '(1 2 3 4 5 6 7)))", "(mapcar (lambda (m) (marker-moves m t)) w)");
    t.does("(goto-char 3) (insert \"xy\")");
    t.is("(list (mapcar 'marker-place l) (mapcar 'marker-place w) (point))", "((1 2 3 6 7 8 9) (1 2 5 6 7 8 9) 5)");
    t.does("(delete-region 3 5)");
    t.is("(list (mapcar 'marker-place l) (mapcar 'marker-place w) (point))", "((1 2 3 4 5 6 7) (1 2 3 4 5 6 7) 3)");
    t.does("(goto-char 6) (delete-region 3 5)");
    t.is("(list (mapcar 'marker-place l) (mapcar 'marker-place w) (point))", "((1 2 3 3 3 4 5) (1 2 3 3 3 4 5) 4)");
    t.does("(goto-char 1) (insert \"z\")");
    t.is("(list (mapcar 'marker-place l) (mapcar 'marker-place w) (point))", "((1 3 4 4 4 5 6) (2 3 4 4 4 5 6) 2)");
    t.does("(goto-char (point-max)) (insert \"q\")");
    t.is("(list (mapcar 'marker-place l) (mapcar 'marker-place w) (point))", "((1 3 4 4 4 5 6) (2 3 4 4 4 5 7) 7)");
    t.does("(delete-region 1 (point-max))");
    t.is("(list (mapcar 'marker-place l) (mapcar 'marker-place w) (point))", "((1 1 1 1 1 1 1) (1 1 1 1 1 1 1) 1)");
    // Those of another buffer stay.
    t = Talk.after("(insert \"abc\") (setq m (marker 3)) (set-buffer (buffer \"o\")) (insert \"abc\") (setq n (marker 3))", "(goto-char 1) (insert \"xx\")");
    t.is("(list (marker-place m) (marker-place n))", "(5 3)");
    Talk.same("nor its point", t.box.buffer(1, 0), 4);
  }

  private static void markers() {
    Talk t = Talk.after("(insert \"abc\") (setq m (marker 1) n (marker 4)) (set-buffer (buffer \"o\")) (insert \"12345678\") (setq far (marker 9))");
    t.is("(list (marker-place m) (marker-place n) (marker-place far))", "(1 4 9)");
    t.refuses("(goto-char far)", "wrong-type: #marker");
    t.refuses("(set-marker m far)", "wrong-type: #marker");
    t.refuses("(set-marker m 5)", "out-of-range: 5");
    t.refuses("(set-marker m 0)", "out-of-range: 0");
    t.is("(list (eq (set-marker m 4) m) (marker-place m) (eq (set-marker far 2) far) (marker-place far) (goto-char far) (point))", "(t 4 t 2 #marker 2)");
    t.is("(list (marker-moves m 5) (marker-moves m nil) (eq (marker m) m) (marker-place (marker n)))", "(5 nil nil 4)");
    t.does("(marker-moves far t) (set-buffer \"o\") (set-marker far 1)");
    t.does("(set-buffer \"o\") (goto-char 1) (insert \"zz\")");
    t.is("(marker-place far)", "3");
  }

  /** The signs between have face i (out-of-range i); 0 at the end. */
  private static void faces() {
    Talk t = Talk.after("(insert \"abcd\") (set-modified nil)");
    t.is("(list (face 1) (face 4) (face 5))", "(0 0 0)");
    t.is("(progn (put-face 1 5 7) (mapcar 'face '(1 2 3 4 5)))", "(7 7 7 7 0)");
    t.is("(progn (put-face 3 2 0) (mapcar 'face '(1 2 3 4 5)))", "(7 0 7 7 0)");
    t.is("(progn (put-face 1 1 3) (put-face 5 5 3) (mapcar 'face '(1 2 3 4 5)))", "(7 0 7 7 0)");
    t.refuses("(put-face 1 5 8)", "out-of-range: 8");
    t.refuses("(put-face 1 5 -1)", "out-of-range: -1");
    t.refuses("(put-face 1 1 8)", "out-of-range: 8");
    t.refuses("(put-face 1 6 1)", "out-of-range: 6");
    t.is("(list (mapcar 'face '(1 2 3 4 5)) (modified))", "((7 0 7 7 0) nil)");
    t.is("(progn (goto-char 1) (insert \"x\") (goto-char 4) (insert \"y\") (goto-char (point-max)) (insert \"z\") (mapcar 'face '(1 2 3 4 5 6 7 8)))", "(0 7 0 0 7 7 0 0)");
    t.is("(progn (delete-region 3 5) (mapcar 'face '(1 2 3 4 5 6)))", "(0 7 7 7 0 0)");
    t.is("(progn (undo) (mapcar 'face '(1 2 3 4 5 6 7 8)))", "(0 7 0 0 7 7 0 0)");
    // Text that comes back has face 0.
    t = Talk.after("(insert \"abcd\") (put-face 1 5 6)", "(delete-region 2 4)", "(undo)");
    t.is("(mapcar 'face '(1 2 3 4 5))", "(6 0 0 6 0)");
  }

  private static void modified() {
    Talk t = new Talk();
    t.is("(list (modified) (set-modified 5) (modified) (set-modified nil) (modified))", "(nil t t nil nil)");
    t.does("(goto-char 1) (boundary) (insert) (delete-region 1 1) (undo) (search-forward \"\")");
    Talk.same("nothing of that", t.box.buffer(0, 2), 0);
    t.does("(insert ?a)");
    Talk.same("insert", t.box.buffer(0, 2), 1);
    t.does("(set-modified nil) (put-face 1 2 3)");
    Talk.same("put-face", t.box.buffer(0, 2), 0);
    t.does("(delete-region 1 2)");
    Talk.same("delete-region", t.box.buffer(0, 2), 1);
    t.does("(set-modified nil)");
    t.does("(undo)");
    Talk.same("undo", t.box.buffer(0, 2), 1);
    t.does("(set-modified nil)");
    t.box.key('k');
    Talk.same("a key", t.box.buffer(0, 2), 1);
  }

  /** What is not told to answer something answers NIL. */
  private static void whatAnswersNil() {
    Talk t = Talk.after("(insert \"abc\\ndef\") (goto-char 2)");
    t.is("(list (insert \"x\") (insert) (delete-region 1 2) (delete-region 1 1) (forward-char) (forward-char 0) (beginning-of-line) (end-of-line))",
        "(nil nil nil nil nil nil nil nil)");
    t.is("(list (put-face 1 2 3) (boundary) (while nil) (progn))", "(nil nil nil nil)");
  }

  /** A string is never changed: what it was made from may be. */
  private static void stringsStay() {
    Talk t = Talk.after("(insert \"abc\") (setq r (region 1 4) n (buffer-name \"main\") s \"xyz\" p (print '(1 2)))");
    t.does("(delete-region 1 4) (insert s r) (setq u (concat s r))");
    t.does("(delete-region 1 (point-max)) (insert \"other\")");
    t.is("(list r n s u p (substring u 1 5))", "(\"abc\" \"main\" \"xyz\" \"xyzabc\" \"(1 2)\" \"yzab\")");
  }
}
