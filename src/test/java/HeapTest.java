/** Promises 4 and 11: cells, collection, markers. */
public final class HeapTest {
  public static void main(String[] args) {
    counting();
    full();
    aSingleCell();
    listsInEachOther();
    wholeOrNot();
    collecting();
    markers();
    Talk.end();
  }

  private static void counting() {
    Talk t = new Talk();
    Talk.same("live ahead of any command", t.box.about(1), 0);
    t.does("");
    Talk.same("live: the map", t.box.about(1), 1);
    Talk.same("made", t.box.about(2), 0);
    t.does("(setq a (cons 1 2))");
    Talk.same("made", t.box.about(2), 3 + 3 + 1);
    t.does("(list 1 2 3)");
    Talk.same("live", t.box.about(1), 2);
    Talk.same("made", t.box.about(2), 4 + 3);
    t.does("(concat \"\" \"\")");
    Talk.same("made", t.box.about(2), 3 + 1 + 1 + 1);
    t.does("(marker 1)");
    Talk.same("made", t.box.about(2), 2 + 1);
    t.does("(mapcar 'null '(1 2 3))");
    Talk.same("made", t.box.about(2), 3 + 2 + 3 + 2 + 3);
    t.does("(define-key global-map \"ab\" 5)");
    Talk.same("made: a map, two for each sign", t.box.about(2), 4 + 2 + 1 + 2 + 2);
    t.does("(define-key global-map \"ab\" 6)");
    Talk.same("made: nothing, there are conses", t.box.about(2), 4 + 2);
    t.does("(define-key global-map \"ac\" 6)");
    Talk.same("made", t.box.about(2), 4 + 2 + 2);
    t.does("((lambda (a &rest b) 1) 1 2 3)");
    Talk.same("made: the rest", t.box.about(2), 4 + 3 + 3 + 2);
    t.does("(symbol-name 'car) (buffer-name \"main\") (print 123456789) (region 1 1)");
    Talk.same("made", t.box.about(2), 2 + 2 + 2 + 2 + 2 + 2 + 2 + 3 + 3 + 1);
  }

  private static void full() {
    Talk t = new Talk();
    t.does("(setq big '(0)) (let ((n 0)) (while (< n 11) (setq n (+ n 1) big (append big big))))");
    t.does("(setq big (append big big))");
    t.does("");
    Talk.same("live", t.box.about(1), 4097);
    // 1903 may be made, 18 by the reading; 1024 at once, the others one by one.
    t.fails("(setq l (append (nthcdr 3072 big) nil)) (while t (setq l (cons 1 l)))", "heap-full");
    Talk.same("made", t.box.about(2), 6000 - 4097);
    t.is("(length l)", "" + (6000 - 4097 - 18));
    t.does("(setq l nil)");
    t.is("(condition-case e (append big nil) (heap-full e))", "(heap-full)");
    // Without room the cons that condition-case tells has none either; with NIL none is made.
    String fill = "(progn (setq l (append (nthcdr 3072 big) nil)) (while t (setq l (cons 1 l))))";
    t.fails("(condition-case e " + fill + " (heap-full (insert ?h)))", "heap-full");
    t.fails("(condition-case t " + fill + " (heap-full (insert ?h)))", "heap-full");
    t.does("(setq l nil)");
    t.does("(condition-case nil " + fill + " (heap-full (insert ?h)))");
    Talk.same("handled once", t.text(0), "h");
    t.does("(setq l nil)");
    t.fails("(condition-case nil " + fill + " (heap-full (string ?h)))", "heap-full");
    t.does("(setq l nil)");
    t.fails("(condition-case nil " + fill + " (heap-full (defun f ())))", "heap-full");
    t.fails("f", "void-variable: f");
  }

  /** Strings of two cells fill the heap up to one cell or none; three more ahead of it all make it the other. */
  private static void aSingleCell() {
    for (String code : new String[] {"(defun f ())", "(cons 1 2)", "(marker 1)", "(concat)", "(list 1)", "(make-map)"}) {
      int[] one = fillAndDo("", code);
      int[] other = fillAndDo("(list 1) ", code);
      Talk.same(code + " has room in one cell, not in none", one[0] + other[0], 1 + 2);
      Talk.same(code + " leaves no cell", one[1] + other[1], 0);
    }
    for (String code : new String[] {"(defmacro f ())", "(define-key m2 s2 5)", "(list 1 2)", "(concat s2)", "(symbol-name 'f)"}) {
      int[] one = fillAndDo("", code);
      int[] other = fillAndDo("(list 1) ", code);
      Talk.same(code + " has no room", one[0] + other[0], 2 + 2);
      Talk.same(code + " makes nothing then", one[1] + other[1], 1);
    }
  }

  /** What load answers, and how many cells are left. */
  private static int[] fillAndDo(String ahead, String code) {
    Talk t = new Talk();
    t.does("(setq m2 (make-map) s2 \"a\" big '(0)) (let ((n 0)) (while (< n 11) (setq n (+ n 1) big (append big big))))");
    t.does("(setq big (append big big))");
    int answer = t.load(ahead + "(condition-case nil (progn (append (nthcdr 2560 big) nil) (while t (concat s2))) (heap-full " + code + "))");
    Talk.same("message", t.message(), answer == 1 ? "" : "heap-full");
    return new int[] {answer, 6000 - t.box.about(1) - t.box.about(2)};
  }

  /** mapcar in mapcar, as deep as levels allow, each keeping a list of 4096. */
  private static void listsInEachOther() {
    Talk t = new Talk();
    t.does("(setq big '(0)) (let ((n 0)) (while (< n 11) (setq n (+ n 1) big (append big big))))");
    t.does("(setq big (append big big)) (setq deep 0)");
    t.does("(defun g (x) (setq deep (+ deep 1)) (mapcar 'g big))");
    t.fails("(mapcar 'g big)", "depth");
    t.is("(list deep (length big))", "(49 4096)");
    t.does("(defun h (n) (if (= n 0) (apply '+ big) (mapcar (lambda (x) (throw 'out (h (- n 1)))) big)))");
    t.is("(catch 'out (h 20))", "0");
  }

  private static void wholeOrNot() {
    Talk t = new Talk();
    t.does("(setq big '(0)) (let ((n 0)) (while (< n 11) (setq n (+ n 1) big (append big big))))");
    t.does("(setq big (append big big))");
    // (setq x (reverse big)): 3 + 2 cells, then 4096 that have no room.
    t.fails("(setq x (reverse big))", "heap-full");
    Talk.same("made", t.box.about(2), 5);
    t.fails("(apply (lambda (&rest r) 1) big)", "heap-full");
    Talk.same("made", t.box.about(2), 3 + 3 + 2);
    t.fails("(mapcar 'null big)", "heap-full");
    Talk.same("a cons each", t.box.about(2), 6000 - 4097);
    StringBuilder items = new StringBuilder("'(");
    for (int i = 0; i < 2000; i++) {
      items.append("1 ");
    }
    t.fails(items.append("(2))").toString(), "heap-full");
    Talk.same("the inner list alone", t.box.about(2), 1);
  }

  private static void collecting() {
    Talk t = new Talk();
    t.does("(setq a '(1 (2 . \"three\") 4)) (setq s \"123456789\") (fset 'f '(lambda ()))");
    t.does("");
    Talk.same("live", t.box.about(1), 1 + 4 + 2 + 3 + 2);
    for (int i = 0; i < 20; i++) {
      t.does("(setq junk '(1 2 3 \"junk\"))");
    }
    t.is("(list a s (symbol-function 'f))", "((1 (2 . \"three\") 4) \"123456789\" (lambda nil))");
    t.does("(setq a nil s nil junk nil) (fset 'f nil)");
    t.does("");
    Talk.same("live", t.box.about(1), 1);
    t.does("(setq c (list 1 2)) (setcdr (cdr c) c) (setcar c c)");
    t.does("");
    Talk.same("a ring", t.box.about(1), 3);
    t.is("(list (eq c (car c)) (eq c (cdr (cdr c))))", "(t t)");
    t.does("(setq c nil) (let ((m (make-map))) (define-key m \"a\" \"text\") (use-map m))");
    t.does("");
    Talk.same("a local map is reached", t.box.about(1), 1 + 3 + 2);
    t.does("(use-map nil)");
    t.does("");
    Talk.same("no more", t.box.about(1), 1);
    t.does("(let ((v '(1 2 3))) v)");
    t.does("");
    Talk.same("bindings are over", t.box.about(1), 1);
    // what is shared stays shared
    t.does("(setq a (list \"s\")) (setq b (cons (car a) a))");
    t.does("");
    t.is("(list (eq (car a) (car b)) (eq (cdr b) a))", "(t t)");
  }

  private static void markers() {
    Talk t = new Talk();
    t.does("(setq l nil)");
    t.fails("(while t (setq l (cons (marker 1) l)))", "too-many-markers");
    Talk.same("markers", t.box.about(11), 40);
    t.is("(length l)", "40");
    t.fails("(marker 1)", "too-many-markers");
    t.does("(setq l (cdr l)) (setq first (car l))");
    Talk.same("reached at its beginning", t.box.about(11), 40);
    t.does("(setq n (marker 1))");
    Talk.same("reached, and made", t.box.about(11), 40);
    t.does("(setq l nil n nil first nil)");
    t.does("");
    Talk.same("none", t.box.about(11), 0);
    t.does("(let ((n 0)) (while (< n 40) (setq n (+ n 1)) (marker 1)))");
    t.does("(let ((n 0)) (while (< n 40) (setq n (+ n 1)) (marker 1)))");
    Talk.same("made", t.box.about(11), 40);
    t.does("(insert \"abcdef\") (setq m (marker 3) o (marker 5))");
    t.does("(setq o nil)");
    t.does("(setq p (marker 6))");
    t.is("(list (marker-place m) (marker-place p))", "(3 6)");
    markersAheadOfCells();
  }

  private static void markersAheadOfCells() {
    Talk t = new Talk();
    t.does("(setq big '(0)) (let ((n 0)) (while (< n 11) (setq n (+ n 1) big (append big big))))");
    t.does("(setq big (append big big))");
    t.does("(setq ms nil) (while (< (length ms) 40) (setq ms (cons (marker 1) ms)))");
    String fill = "(setq l (append (nthcdr 3072 big) nil)) (while t (setq l (cons 1 l)))";
    t.fails("(condition-case nil (progn " + fill + ") (heap-full (marker 1)))", "too-many-markers");
    t.does("(setq l nil ms nil)");
    t.fails("(condition-case nil (progn " + fill + ") (heap-full (marker 1)))", "heap-full");
    Talk.same("no marker", t.box.about(11), 0);
  }
}
