/** Terms, THE HEAP: 6000 cells, what is made whole or not at all, what is reached, 40 markers. */
public final class EdgeHeapTest {
  private static final String MARKERS = "(setq ms nil) (defun make (n) (while (< 0 n) (setq n (- n 1) ms (cons (marker 1) ms))))";

  public static void main(String[] args) {
    cellsOfEach();
    sizesOfStrings();
    madeAtOnce();
    madeOneByOne();
    madeByReading();
    allCells();
    allLive();
    noneLive();
    theFirstCell();
    reached();
    noMore();
    errorItself();
    fortyMarkers();
    markersFirst();
    markersReached();
    Talk.end();
  }

  private static void made(String setup, String code, int cells) {
    Talk t = Talk.after(setup, "(defun test () " + code + ")");
    t.does("(test)");
    Talk.same("cells of " + code, t.box.about(2), 1 + cells);
  }

  /** A cons takes 1, a marker 1; an INT, a symbol, a buffer none. */
  private static void cellsOfEach() {
    made("", "(cons 1 2)", 1);
    made("", "(list 1 2 3 4)", 4);
    made("", "(list)", 0);
    made("", "(marker 1)", 1);
    made("", "(+ 1 2)", 0);
    made("", "(intern \"new\")", 0);
    made("", "(buffer \"new\")", 0);
    made("", "(make-map)", 1);
    made("", "(reverse nil)", 0);
    made("", "(append nil '(1 2))", 0);
    made("", "(append '(1 2) '(3))", 2);
    made("", "(insert \"abc\")", 0);
    made("", "(lambda (x) x)", 0);
    made("", "(condition-case nil (car 5) (error 1))", 0);
    made("", "(condition-case e (car 5) (error 1))", 1);
    made("", "(condition-case e (car 4) (arith 1) (error 2))", 1);
    made("", "(funcall (lambda (&rest r) 1))", 0);
    made("", "(funcall (lambda (&rest r) 1) 1 2)", 2);
    made("", "(split-below)", 0);
  }

  /** A string of n signs takes 1 + (n + 7) / 8. */
  private static void sizesOfStrings() {
    int[][] cases = {{0, 1}, {1, 2}, {7, 2}, {8, 2}, {9, 3}, {16, 3}, {17, 4}, {24, 4}, {25, 5}, {1992, 250}, {1993, 251}, {2000, 251}};
    String text = "(setq s \"0123456789\") (setq s (concat s s s s s)) (setq s (concat s s s s)) (setq s (concat s s s s s s s s s s))";
    for (int[] pair : cases) {
      made(text, "(substring s 0 " + pair[0] + ")", pair[1]);
    }
    Talk t = new Talk();
    t.does("\"12345678\"");
    Talk.same("read", t.box.about(2), 2);
    t.does("\"123456789\"");
    Talk.same("read", t.box.about(2), 3);
  }

  /** What is made at once is made whole or not at all. */
  private static void madeAtOnce() {
    Cells.needs("", "(cons 1 2)", 1);
    Cells.needs("", "(list 1 2 3)", 3);
    Cells.needs("(setq l '(1 2 3 4))", "(reverse l)", 4);
    Cells.needs("(setq l '(1 2 3 4))", "(append l 5)", 4);
    Cells.needs("(setq l '(1 2 3 4))", "(apply 'list l)", 4);
    Cells.needs("", "(concat)", 1);
    Cells.needs("", "(concat s)", 251);
    Cells.needs("", "(substring s 3 20)", 4);
    Cells.needs("", "(string 97)", 2);
    Cells.needs("", "(symbol-name 'too-many-markers)", 3);
    Cells.needs("", "(print 123456789)", 3);
    Cells.needs("(insert \"123456789\")", "(region 1 10)", 3);
    Cells.needs("", "(buffer-name \"main\")", 2);
    Cells.needs("", "(marker 1)", 1);
    Cells.needs("", "(make-map)", 1);
    Cells.needs("", "(define-key global-map \"a\" 5)", 2);
    Cells.needs("", "(defun f (x) x)", 1);
    Cells.needs("", "(defmacro f (x) x)", 2);
    Cells.needs("", "(condition-case e (car 5) (error 1))", 1);
    Cells.needs("", "(funcall (lambda (a &rest r) 1) 1 2 3 4)", 3);
    Talk t = Cells.evaluated("", "(defmacro f (x) x)", 1);
    t.is("(symbol-function 'f)", "nil");
    t = Cells.evaluated("(defun f () 5)", "(defun f () 6)", 0);
    t.is("(f)", "5");
    t = Cells.evaluated("", "(define-key global-map \"a\" 5)", 1);
    t.is("global-map", "(keymap)");
    t = Cells.evaluated("", "(list (buffer \"b\") (intern \"new-one\") (+ 1 2) (car '(1)))", 3);
    Talk.same("without cells there are buffers and symbols", t.box.about(4), 2);
    t = Cells.evaluated("(define-key global-map \"a\" 5)", "(define-key global-map \"a\" 6)", 0);
    Talk.same("a binding that is there needs none", t.message(), "");
    t.is("global-map", "(keymap (97 . 6))");
  }

  /** mapcar's conses, and define-key's as it goes along. */
  private static void madeOneByOne() {
    Talk t = Cells.evaluated("(setq n 0)", "(mapcar (lambda (x) (setq n (+ n 1))) '(1 2 3))", 3);
    Talk.same("three of three", t.message(), "");
    Talk.same("none is left", Cells.left(t), 0);
    t = Cells.evaluated("(setq n 0)", "(mapcar (lambda (x) (setq n (+ n 1))) '(1 2 3))", 2);
    Talk.same("two of three", t.message(), "heap-full");
    Talk.same("they were made", Cells.left(t), 0);
    t.is("n", "3");
    // A map 1, its binding 2, the last one's binding 2.
    String[] maps = {"(keymap)", "(keymap)", "(keymap)", "(keymap (97 keymap))", "(keymap (97 keymap))", "(keymap (97 keymap (98 . 7)))"};
    int[] left = {0, 0, 1, 0, 1, 0};
    for (int free = 0; free < 6; free++) {
      t = Cells.evaluated("", "(define-key global-map \"ab\" 7)", free);
      Talk.same("with " + free, t.message(), free < 5 ? "heap-full" : "");
      Talk.same("left of " + free, Cells.left(t), left[free]);
      t.is("global-map", maps[free]);
    }
    // Where the binding is no map a new one takes its place: 1 and 2.
    for (int free = 0; free < 4; free++) {
      t = Cells.evaluated("(define-key global-map \"a\" 5)", "(define-key global-map \"ab\" 7)", free);
      Talk.same("with " + free, t.message(), free < 3 ? "heap-full" : "");
      Talk.same("left of " + free, Cells.left(t), free == 2 ? 1 : 0);
      t.is("global-map", free == 0 ? "(keymap (97 . 5))" : free < 3 ? "(keymap (97 keymap))" : "(keymap (97 keymap (98 . 7)))");
    }
  }

  /** Cells are made where a thing has been read whole; all conses of a list at once. */
  private static void madeByReading() {
    int[][] lists = {{0, 0}, {2, 2}, {3, 0}, {4, 1}, {5, 0}};
    for (int[] pair : lists) {
      Talk t = Cells.read("'(1 2 3)", pair[0]);
      Talk.same("'(1 2 3) with " + pair[0], t.message(), pair[0] < 5 ? "heap-full" : "");
      Talk.same("left of " + pair[0], Cells.left(t), pair[1]);
    }
    int[][] nested = {{1, 1}, {2, 0}, {3, 1}, {4, 0}, {5, 1}, {6, 2}, {7, 0}};
    for (int[] pair : nested) {
      // "ab" takes 2, '5 2, then (progn ..) 3.
      Talk t = Cells.read("(progn \"ab\" '5)", pair[0]);
      Talk.same("nested with " + pair[0], t.message(), pair[0] < 7 ? "heap-full" : "");
      Talk.same("left of " + pair[0], Cells.left(t), pair[1]);
    }
    Talk t = Cells.read("\"12345678\"", 2);
    Talk.same("a string", t.message(), "");
    t = Cells.read("\"123456789\"", 2);
    Talk.same("a string", t.message(), "heap-full");
    Talk.same("left", Cells.left(t), 2);
    t = Cells.read("'(1 . 2)", 3);
    Talk.same("a last cdr takes none", t.message(), "");
    t = Cells.read("''a", 4);
    Talk.same("each ' two", t.message(), "");
    t = Cells.read("''a", 3);
    Talk.same("each ' two", t.message(), "heap-full");
    Talk.same("the inner one's two were made", Cells.left(t), 1);
    t = Cells.read("5 nil () ?a", 0);
    Talk.same("these take none", t.message(), "");
    t = Cells.read("(1 2", 9);
    Talk.same("an end too early", t.message(), "read-error");
    Talk.same("nothing was made", Cells.left(t), 9);
    t = Cells.read("((1 2) \"ab\" (3", 9);
    Talk.same("what was whole was made", Cells.left(t), 5);
    t = Cells.read("(1 2))", 9);
    Talk.same("the list, then what it is", t.message(), "void-function: 1");
  }

  /** More than 6000 less LIVE: error heap-full NIL, which makes none. */
  private static void allCells() {
    Talk t = new Talk();
    t.makeBig();
    // The reading takes 18 cells, 1024 are made at once, the others one by one.
    t.fails("(setq rest (append (nthcdr 3072 big) big)) (while t (setq rest (cons 1 rest)))", "heap-full");
    Talk.same("live", t.box.about(1), 4097);
    Talk.same("made", t.box.about(2), 6000 - 4097);
    t.does("(setq n 0) (while rest (setq rest (nthcdr 1000 rest) n (+ n 1)))");
    Talk.same("all are reached but those of the reading", t.box.about(1), 6000 - 18);
    t.is("n", "6");
    t.does("(setq big nil)");
    t.does("");
    Talk.same("what is not reached is no more", t.box.about(1), 1);
  }

  /** 6000 LIVE cells leave none to make. */
  private static void allLive() {
    Talk t = new Talk();
    t.makeBig();
    t.does("(define-key global-map \"k\" (lambda () (setq rest (append (nthcdr 3072 big) big)) (while t (setq rest (cons 1 rest)))))");
    t.does("(define-key global-map \"l\" (lambda () (setq rest nil))) (define-key global-map \"m\" (lambda () (list)))");
    t.does("(define-key global-map \"n\" (lambda () (list 1)))");
    Talk.same("a key needs no reading", t.box.key('k'), 2);
    Talk.same("message", t.message(), "heap-full");
    t.does("");
    Talk.same("all are live", t.box.about(1), 6000);
    t.refuses("'a", "heap-full");
    Talk.same("none was made", t.box.about(2), 0);
    t.does("5 nil rest ()");
    Talk.same("what needs none", t.box.key('m'), 1);
    Talk.same("what needs one", t.box.key('n'), 2);
    Talk.same("text of a key", t.box.key('x'), 1);
    Talk.same("they are gone", t.box.key('l'), 1);
    Talk.same("live at its beginning", t.box.about(1), 6000);
    t.does("(setq r2 (length big))");
    Talk.same("there is room again", t.box.about(1) < 5000, true);
    t.is("r2", "4096");
  }

  /** Without anything that is reached the first thing that is read lies first. */
  private static void noneLive() {
    Talk t = Talk.after("(setq global-map nil)");
    t.does("");
    Talk.same("live", t.box.about(1), 0);
    t.is("(list 1 2)", "(1 2)");
    t.is("\"text\"", "\"text\"");
    t.is("'a", "a");
    t.does("(setq m (marker 1))");
    t.is("(marker-place m)", "1");
  }

  /** Whatever lies first in the heap is as good as the others. */
  private static void theFirstCell() {
    String[][] cases = {{"'(1 2)", "(list (car quote) (cdr quote) (setcar quote 5) (setcdr quote 6) quote)", "(1 (2) 5 6 (5 . 6))"},
        {"\"text\"", "(list (length quote) (sign quote 0) (concat quote \"s\") (equal quote \"text\"))", "(4 116 \"texts\" t)"},
        {"(marker 1)", "(list (marker-place quote) (eq (goto-char quote) quote) (set-marker quote 1))", "(1 t #marker)"},
        {"(lambda (x) x)", "(list (funcall quote 3) (mapcar quote (list 4)))", "(3 (4))"}};
    for (String[] one : cases) {
      Talk t = Talk.after("(set 'quote " + one[0] + ")");
      t.is(one[1], one[2]);
    }
    Talk t = Talk.after("(setcdr global-map (list (cons 97 'point)))");
    t.is("global-map", "(keymap (97 . point))");
    t.does("(setcar global-map 'other)");
    t.refuses("(use-map global-map)", "wrong-type: (other (97 . point))");
  }

  /** From the symbols' values and functions, the buffers' local maps; from conses their cars and cdrs. */
  private static void reached() {
    String[][] cases = {{"(setq a (cons 1 2))", "1"}, {"(setq a (cons (cons 1 2) (cons 3 4)))", "3"}, {"(fset 'f '(1 2 3))", "3"},
        {"(defun f () 1)", "3"}, {"(defmacro f () 1)", "4"}, {"(setq a \"123456789\")", "3"}, {"(setq a (marker 1))", "1"},
        {"(setq a (list (marker 1) \"\" 5 'b (current-buffer)))", "7"}, {"(use-map (make-map))", "1"},
        {"(set-buffer (buffer \"b\")) (use-map (list 'keymap (cons 97 \"a\")))", "5"}, {"(setq a (list 1)) (setcdr a a) (setcar a a)", "1"},
        {"(setq a (list 1 2)) (setq b (cdr a)) (fset 'c a)", "2"}, {"(define-key global-map \"ab\" '(1))", "6"}, {"(setq global-map nil)", "-1"},
        {"(setq last-key '(1 2))", "2"}, {"(set 'car '(1 2))", "2"}};
    for (String[] pair : cases) {
      Talk t = Talk.after(pair[0]);
      t.does("");
      Talk.same("live of " + pair[0], t.box.about(1), 1 + Integer.parseInt(pair[1]));
      t.does("");
      Talk.same("live of it again", t.box.about(1), 1 + Integer.parseInt(pair[1]));
    }
  }

  private static void noMore() {
    String[] cases = {"(cons 1 2)", "\"text\"", "(let ((a (cons 1 2))) a)", "((lambda (a) a) '(1 2))", "(setq a '(1 2)) (setq a 5)",
        "(fset 'f '(1)) (fset 'f nil)", "(use-map (make-map)) (use-map nil)", "(message \"text\")", "(insert \"text\")",
        "(condition-case e (error \"x\") (error e))", "(setq a (list (list 1))) (setcar a nil) (setq a nil)", "(catch 'a (throw 'a '(1)))",
        "(setq a (marker 1)) (setq a nil)"};
    for (String code : cases) {
      Talk t = Talk.after(code);
      t.does("");
      Talk.same("live of " + code, t.box.about(1), 1);
    }
    Talk t = new Talk();
    t.fails("(let ((a '(1 2))) (signal 'mine a))", "mine: (1 2)");
    t.does("");
    Talk.same("nor by an error", t.box.about(1), 1);
    t = Talk.after("(define-key global-map \"a\" (lambda () (setq last-key 0)))", "(setq last-key '(1 2 3))");
    t.box.key('a');
    Talk.same("last-key gets the key ahead of the command", t.box.about(1), 1 + 2 + 6);
  }

  private static void errorItself() {
    Talk t = Cells.evaluated("(setq got 0)", "(condition-case nil (list 1 2) (heap-full (setq got 1)))", 1);
    Talk.same("handled", t.message(), "");
    t.is("got", "1");
    t = Cells.evaluated("(setq got 0)", "(condition-case e (list 1 2) (heap-full (setq got e)))", 1);
    t.is("got", "(heap-full)");
    t = Cells.evaluated("(setq got 0)", "(condition-case e (list 1 2) (heap-full (setq got e)))", 0);
    Talk.same("the cons that is told has no room", t.message(), "heap-full");
    t.is("got", "0");
    t = Cells.evaluated("(setq got 0)", "(condition-case t (list 1 2) (heap-full (setq got 1)))", 0);
    Talk.same("it is made ahead of being bound", t.message(), "heap-full");
    t = Cells.evaluated("(setq got 0)", "(condition-case t (list 1 2) (heap-full (setq got 1)))", 1);
    Talk.same("with room", t.message(), "constant: t");
  }

  /** At most 40 markers: error too-many-markers NIL. */
  private static void fortyMarkers() {
    Talk t = Talk.after(MARKERS, "(make 39)");
    Talk.same("39", t.box.about(11), 39);
    t.does("(setq ms (cons (marker 1) ms))");
    Talk.same("40", t.box.about(11), 40);
    t.refuses("(marker 1)", "too-many-markers");
    Talk.same("no cell but the form's", t.box.about(2), 2);
    t.is("(condition-case e (marker 1) (too-many-markers e))", "(too-many-markers)");
    t = Talk.after(MARKERS, "(make 40)");
    t.fails("(make 1)", "too-many-markers");
    t = new Talk();
    t.fails(MARKERS + "(make 41)", "too-many-markers");
    Talk.same("40", t.box.about(11), 40);
    t.is("(length ms)", "40");
  }

  /** Looked at first: ahead of heap-full, but behind number, kinds and range. */
  private static void markersFirst() {
    Talk t = Cells.evaluated(MARKERS + "(make 40)", "(marker 1)", 0);
    Talk.same("no marker, no cell", t.message(), "too-many-markers");
    t = Cells.evaluated(MARKERS + "(make 39)", "(marker 1)", 0);
    Talk.same("a marker, but no cell", t.message(), "heap-full");
    Talk.same("none was made", t.box.about(11), 39);
    t = Talk.after(MARKERS, "(make 40)");
    t.refuses("(marker 2)", "out-of-range: 2");
    t.refuses("(marker nil)", "wrong-type");
    t.refuses("(marker)", "wrong-number-of-args: marker");
  }

  /** In the same way: at the beginning of a command what is not reached is no more. */
  private static void markersReached() {
    Talk t = Talk.after(MARKERS, "(make 40)", "(setq ms (cdr (cdr ms)))");
    Talk.same("they were reached at its beginning", t.box.about(11), 40);
    t.does("(make 1)");
    Talk.same("two less, one more", t.box.about(11), 39);
    t.does("(marker 1)");
    Talk.same("and one more", t.box.about(11), 40);
    t.fails("(marker 1) (marker 1)", "too-many-markers");
    Talk.same("not within a command", t.box.about(11), 40);
    t.does("(setq ms nil)");
    t.does("");
    Talk.same("none", t.box.about(11), 0);
    t.does("(use-map (list 'keymap (marker 1))) (fset 'f (marker 1))");
    t.does("");
    Talk.same("by a map and a function", t.box.about(11), 2);
    t.does("(insert \"abc\") (setq m (marker 3))");
    t.does("(use-map nil) (fset 'f nil)");
    t.does("(setq n (marker 2)) (marker-moves n t)");
    t.is("(list (marker-place m) (marker-place n))", "(3 2)");
    t.does("(setq n nil)");
    t.does("(setq n (marker 2)) (goto-char 2) (insert \"xx\")");
    t.is("(list (marker-place m) (marker-place n))", "(5 2)");
  }
}
