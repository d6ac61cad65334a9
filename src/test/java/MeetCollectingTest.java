/** What is no more at the beginning of a command, and what stays, where something else ends or goes on there. */
public final class MeetCollectingTest {
  /** The map of global-map. */
  private static final int FIRST = 1;

  public static void main(String[] args) {
    boundValues();
    errorsAndThrownValues();
    sharedDefinitions();
    oldLastKey();
    mapsOfBuffers();
    aCommandThatDropsItself();
    waitingKeysHoldNothing();
    markersOfLeftCalls();
    markersAndTheirText();
    textAndUndoTakeNoCells();
    symbolsStay();
    fullAndFreeAgain();
    Talk.end();
  }

  private static void live(Talk t, String what, int want) {
    t.load("");
    Talk.same(what, t.box.about(1), want);
  }

  /** What was bound is reached no more when its call is over, however it is; what it hid is. */
  private static void boundValues() {
    Talk t = Talk.after("(setq x (list 1 2 3))");
    live(t, "x", FIRST + 3);
    t.does("(let ((x (list 1 2 3 4 5))) (setq x (cons 0 x)))");
    live(t, "what let hid", FIRST + 3);
    t.fails("(let ((x (list 1 2 3 4 5))) (error \"e\"))", "e");
    live(t, "left by an error", FIRST + 3);
    t.fails("(let ((x (list 1 2 3 4 5))) (while t))", "fuel");
    live(t, "left by fuel", FIRST + 3);
    t.does("((lambda (&rest x) (setq y x)) 1 2 3 4 5 6)");
    live(t, "a value that stays elsewhere", FIRST + 3 + 6);
    t.does("(setq x nil) (setq y nil)");
    live(t, "none", FIRST);
  }

  private static void errorsAndThrownValues() {
    Talk t = new Talk();
    t.fails("(signal 'foo (list 1 2 3))", "foo: (1 2 3)");
    live(t, "a datum", FIRST);
    t.does("(condition-case e (signal 'foo (list 1 2 3)) (foo (setq kept e)))");
    live(t, "(condition . datum)", FIRST + 4);
    t.does("(setq kept (catch 'k (throw 'k (list 1 2))))");
    live(t, "what was thrown", FIRST + 2);
    t.fails("(throw (list 1 2 3) (list 4 5 6))", "no-catch: (1 2 3)");
    live(t, "a tag", FIRST + 2);
    t.does("(message \"a message of many signs\") (setq kept nil)");
    live(t, "a message", FIRST);
  }

  /** What stands behind y is shared. */
  private static void sharedDefinitions() {
    Talk t = new Talk();
    t.does("(defun f () '(1 2 3))");
    Talk.same("four conses, quote's two, three, and lambda's", t.box.about(2), 4 + 2 + 3 + 1);
    live(t, "lambda's cons and what is behind f", FIRST + 1 + 2 + 2 + 3);
    t.does("(setq x (f))");
    live(t, "x is a part of it", FIRST + 8);
    t.does("(setcar x 9) (setcdr (cdr (cdr x)) '(4))");
    t.is("(f)", "(9 2 3 4)");
    t.does("(defun f ())");
    live(t, "x, and the new one", FIRST + 4 + 2);
    t.does("(defmacro f ())");
    live(t, "a macro takes one more", FIRST + 4 + 3);
    t.does("(fset 'f nil) (setq x nil)");
    live(t, "none", FIRST);
  }

  /** last-key gets the INT, and then it is called, as a command. */
  private static void oldLastKey() {
    Talk t = Talk.after("(define-key global-map \"p\" 'point)");
    t.does("(setq last-key (list 1 2 3))");
    t.box.key('i');
    Talk.same("a key that is inserted does not change it", t.box.about(1), FIRST + 2 + 3);
    t.box.key('p');
    Talk.same("what it was is no more when the command begins", t.box.about(1), FIRST + 2);
    t.is("last-key", "112");
  }

  /** From the buffers' local maps, whether they are shown or not. */
  private static void mapsOfBuffers() {
    Talk t = new Talk();
    t.does("(set-buffer (buffer \"b\")) (use-map (make-map))");
    live(t, "a local map", FIRST + 1);
    t.does("(set-buffer \"b\") (let ((m (make-map))) (define-key m \"x\" (lambda () (insert \"from b\"))) (use-map m))");
    live(t, "with a binding: two conses, and a lambda list of three and two with a string of two cells", FIRST + 1 + 2 + 3 + 2 + 2);
    Talk.same("not shown: inserted", t.box.key('x'), 1);
    t.does("(show-buffer \"b\")");
    Talk.same("shown: called", t.box.key('x'), 1);
    Talk.same("main", t.text(0), "x");
    Talk.same("b", t.text(1), "from b");
    t.does("(use-map nil)");
    live(t, "none", FIRST);
  }

  /** What is called goes on, though nothing reaches it any more. */
  private static void aCommandThatDropsItself() {
    Talk t = Talk.after("(define-key global-map \"a\" (lambda () (setq global-map nil last-key nil) (insert \"one\") (insert \"two\")))");
    Talk.same("called", t.box.key('a'), 1);
    Talk.same("to its end", t.text(0), "onetwo");
    Talk.same("inserted then", t.box.key('a'), 1);
    Talk.same("nothing is reached", t.box.about(1), 0);
    Talk.same("the text", t.text(0), "onetwoa");
    t.does("(setq global-map (make-map)) (defun f () (fset 'f nil) (setq x (list 1 2)) x)");
    t.is("(f)", "(1 2)");
    live(t, "the function is gone", FIRST + 2);
    t.fails("(f)", "void-function: f");
  }

  private static void waitingKeysHoldNothing() {
    Talk t = Talk.after("(define-key global-map \"ab\" 'point)");
    Talk.same("waits", t.box.key('a'), 0);
    t.does("(setq global-map (make-map))");
    live(t, "the old map is no more", FIRST);
    Talk.same("it still waits", t.box.about(9), 1);
    Talk.same("gone along anew", t.box.key('b'), 3);
    Talk.same("both", t.message(), "ab undefined");
  }

  private static void markersOfLeftCalls() {
    Talk t = new Talk();
    t.fails("(let ((m (marker 1))) (list (marker 1) (marker 1)) (error \"e\"))", "e");
    Talk.same("made since", t.box.about(11), 3);
    t.load("");
    Talk.same("reached by nothing", t.box.about(11), 0);
    t.does("(setq l nil) (let ((n 0)) (while (< n 40) (setq l (cons (marker 1) l) n (+ n 1))))");
    t.fails("(condition-case nil (marker 1) (too-many-markers (setq l (cdr l)) (marker 1)))", "too-many-markers");
    Talk.same("one that is dropped in a command counts until its end", t.box.about(11), 40);
    t.does("(marker 1)");
    Talk.same("one more could be", t.box.about(11), 40);
    t.does("(let ((m (car l))) (setq l nil) (marker-place m))");
    t.load("");
    Talk.same("none", t.box.about(11), 0);
  }

  /** A marker that is no more leaves its place to others that are new: in their own buffer, and not moving. */
  private static void markersAndTheirText() {
    Talk t = Talk.after("(insert \"abc\") (set-buffer (buffer \"b\")) (insert \"12345\") (setq m (marker 4)) (marker-moves m t)");
    t.does("(setq m nil)");
    t.does("(setq m (marker 2)) (goto-char 2) (insert \"xx\")");
    t.is("(list (marker-place m) (goto-char m))", "(2 #marker)");
    t.fails("(set-buffer \"b\") (goto-char m)", "wrong-type: #marker");
    t.does("(set-buffer \"b\") (set-marker m 6) (delete-region 1 3)");
    t.is("(marker-place m)", "4");
    t.is("(let ((old m)) (setq m nil) (set-buffer \"b\") (goto-char 4) (insert \"!\") (marker-place old))", "4");
  }

  private static void textAndUndoTakeNoCells() {
    Talk t = new Talk();
    t.does("(let ((n 0)) (while (< n 30) (insert \"some text\") (delete-region 1 5) (boundary) (setq n (+ n 1))))");
    Talk.same("records", t.box.buffer(0, 3) > 50, true);
    t.does("(split-below) (show-buffer (buffer \"b\"))");
    live(t, "none of it is in the heap", FIRST);
  }

  /** Each there for good from the first time it is read or made. */
  private static void symbolsStay() {
    Talk t = new Talk();
    t.fails("(one two", "read-error");
    Talk.same("read", t.box.about(3), 2);
    t.does("(condition-case nil (intern \"three\") (error nil))");
    live(t, "symbols take no cells", FIRST);
    Talk.same("made", t.box.about(3), 3);
    t.does("(let ((one 1)) (intern \"one\"))");
    Talk.same("not twice", t.box.about(3), 3);
  }

  /** A heap that was full is free again at the next command, unless it is reached. */
  private static void fullAndFreeAgain() {
    Talk t = new Talk();
    t.makeBig();
    live(t, "4096 conses", FIRST + 4096);
    t.fails("(setq other (append big nil))", "heap-full");
    Talk.same("the form alone was made", t.box.about(2), 3 + 3);
    t.is("(boundp 'other)", "nil");
    t.does("(setq big (nthcdr 4000 big))");
    live(t, "the rest", FIRST + 96);
    t.does("(let ((n 0)) (while (< n 58) (append big big) (setq n (+ n 1))))");
    live(t, "only what is reached", FIRST + 96);
  }
}
