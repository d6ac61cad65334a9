/** An error, a throw, or a command's end inside unwind-protect, condition-case, save-excursion, let, or a call. */
public final class MeetLeavingTest {
  public static void main(String[] args) {
    bindingsAndCleaning();
    excursionsAndCleaning();
    whatTakesTheOthersPlace();
    throwsAndErrors();
    errorsOfHandlers();
    errorsAmongArguments();
    errorsAmongEntries();
    leavingCallsOfPrimitives();
    leavingMacros();
    levelsThatAreOver();
    fuelLeavesAll();
    commandsThatEnd();
    keysThatEnd();
    Talk.end();
  }

  /** What was bound inside of e is undone ahead of the others; what was bound outside is still bound. */
  private static void bindingsAndCleaning() {
    Talk t = Talk.after("(setq x 0 seen nil)");
    t.is("(catch 'k (let ((x 1)) (unwind-protect (throw 'k 5) (setq seen x))))", "5");
    t.is("(list x seen)", "(0 1)");
    t.is("(condition-case nil (unwind-protect (let ((x 3)) (error \"e\")) (setq seen x)) (error x))", "0");
    t.is("(list x seen)", "(0 0)");
    t.is("(condition-case e ((lambda (x) (unwind-protect (car x) (setq seen x))) 7) (error (list e x)))", "((wrong-type . 7) 0)");
    t.is("(list x seen)", "(0 7)");
    t.is("(let* ((x 1) (y (unwind-protect x (setq x 2)))) (list x y))", "(2 1)");
    t.is("(let ((x 1)) (condition-case x (error \"in\") (error (setq seen x x 9))) (list x seen))", "(1 (error . \"in\"))");
    t.is("(let ((x 1)) (setq x 2) (catch 'k (let ((x 3)) (setq x 4) (throw 'k nil))) x)", "2");
    t.fails("(let ((fresh 1)) (unwind-protect (error \"out\") (setq seen fresh)))", "out");
    t.is("(list seen (boundp 'fresh))", "(1 nil)");
  }

  /** An excursion inside of e is over ahead of the others; one around them is under way. */
  private static void excursionsAndCleaning() {
    Talk t = Talk.after("(buffer \"b\") (insert \"main text\") (goto-char 3)");
    t.is("(condition-case nil (unwind-protect (save-excursion (set-buffer \"b\") (insert \"x\") (error \"e\"))"
        + " (setq seen (list (buffer-name (current-buffer)) (point)))) (error seen))", "(\"main\" 3)");
    t.is("(condition-case nil (save-excursion (set-buffer \"b\") (unwind-protect (error \"e\")"
        + " (setq seen (list (buffer-name (current-buffer)) (point))))) (error (list seen (point))))", "((\"b\" 2) 3)");
    t.is("(catch 'k (save-excursion (goto-char 9) (save-excursion (set-buffer \"b\") (goto-char 1) (throw 'k 1))))", "1");
    t.is("(list (buffer-name (current-buffer)) (point))", "(\"main\" 3)");
    // An excursion brings back the point of the buffer that was current at its beginning alone.
    t.is("(save-excursion (set-buffer \"b\") (point))", "1");
    t.is("(condition-case nil (save-excursion (goto-char 1) (insert \"12\") (delete-region 1 2) (car 1)) (error (point)))", "4");
    t.is("(let ((n (save-excursion (goto-char 1) (undo) (point)))) (list n (point)))", "(1 3)");
    Talk.same("the text", t.text(0), "main text");
  }

  /** One of the others' own takes its place. */
  private static void whatTakesTheOthersPlace() {
    Talk t = new Talk();
    t.is("(catch 'a (unwind-protect (error \"x\") (throw 'a 'won)))", "won");
    t.is("(condition-case e (catch 'a (unwind-protect (throw 'a 1) (error \"two\"))) (error e))", "(error . \"two\")");
    t.is("(catch 'a (catch 'b (unwind-protect (throw 'a 1) (throw 'b 2))) 3)", "3");
    t.is("(list (catch 'a (catch 'b (unwind-protect (throw 'b 1) (throw 'a 2))) 3))", "(2)");
    t.is("(condition-case e (unwind-protect (car 1) (car 2)) (error e))", "(wrong-type . 2)");
    t.is("(condition-case e (unwind-protect (car 1) (condition-case nil (car 2) (error 3))) (error e))", "(wrong-type . 1)");
    t.is("(catch 'a (unwind-protect (throw 'a 1) (catch 'a (throw 'a 2)) (catch 'c 3)))", "1");
    t.is("(catch 'a (unwind-protect 1 (throw 'a 2)))", "2");
    t.fails("(unwind-protect (error \"first\") (error \"second\") (insert \"not\"))", "second");
    t.fails("(catch 'a (unwind-protect (throw 'a 1) (throw 'nowhere 2)))", "no-catch: nowhere");
    Talk.same("no text", t.text(0), "");
  }

  private static void throwsAndErrors() {
    Talk t = new Talk();
    t.is("(catch 'a (condition-case nil (throw 'a 1) (error 2)))", "1");
    t.is("(condition-case e (throw 'b 1) (no-catch (list e 2)))", "((no-catch . b) 2)");
    t.is("(catch 'b (condition-case e (progn (catch 'c 1) (throw 'c 1)) (error (throw 'b e))))", "(no-catch . c)");
    t.is("(condition-case e (catch (throw 'a 1) (throw 'a 2)) (error e))", "(no-catch . a)");
    t.is("(catch 'a (catch (throw 'a 1) 2) 3)", "1");
    t.is("(catch 'a (list 1 (catch 'b (throw 'a (catch 'a (throw 'a 5))))))", "5");
    t.is("(catch nil (throw nil nil))", "nil");
    t.is("(catch 5 (catch '5 (throw 5 'inner)) 'outer)", "outer");
    t.is("(catch \"s\" (condition-case e (throw \"s\" 1) (no-catch 'not-eq)))", "not-eq");
    t.is("(condition-case e (signal 'no-catch 'made) (no-catch e))", "(no-catch . made)");
  }

  /** An error in all that is none of e's. */
  private static void errorsOfHandlers() {
    Talk t = new Talk();
    t.is("(condition-case e (condition-case nil (error \"one\") (error (error \"two\"))) (error e))", "(error . \"two\")");
    t.is("(condition-case e (condition-case t (error \"one\") (error 1)) (constant e))", "(constant . t)");
    t.is("(condition-case e (condition-case e (car 1) (arith 1) (search-failed 2)) (wrong-type (list e)))", "((wrong-type . 1))");
    t.is("(condition-case e (condition-case e (car 1) (error (cdr e)) (error 2)) (error 3))", "1");
    t.is("(catch 'a (condition-case e (car 1) (error (throw 'a e) 4)))", "(wrong-type . 1)");
    t.is("(let ((e 5)) (condition-case e (car 1) (error (setq e 6))) e)", "5");
    t.does("(defun tried (n) (condition-case e (if (< n 1) (error \"low\") (tried (- n 1))) (error (signal 'arith (list n (cdr e))))))");
    t.fails("(tried 2)", "arith: (2 (1 (0 \"low\")))");
    Talk.same("e is void", t.load("e"), 2);
  }

  /** What was evaluated ahead of it stays; the call is not made. */
  private static void errorsAmongArguments() {
    Talk t = new Talk();
    t.fails("(list (insert \"a\") (error \"x\") (insert \"b\"))", "x");
    Talk.same("the first alone", t.text(0), "a");
    t.is("(+ 1 (catch 'k (+ 2 (throw 'k 3))) 4)", "8");
    t.is("(list 1 (condition-case nil (list 2 (car 5)) (error 6)) 7)", "(1 6 7)");
    t.fails("(void-one (insert \"c\"))", "void-function: void-one");
    t.fails("((lambda (x) x) (insert \"d\") (error \"y\"))", "y");
    Talk.same("the function is looked up first", t.text(0), "ad");
    t.does("(defun gone (x) (list 'old x))");
    t.is("(gone (progn (fset 'gone nil) 1))", "(old 1)");
    t.fails("(gone 1)", "void-function: gone");
  }

  private static void errorsAmongEntries() {
    Talk t = Talk.after("(setq x 0 seen nil)");
    t.is("(condition-case nil (let ((x 1) (y (setq seen x)) (z (error \"e\"))) 1) (error (list x seen (boundp 'y))))", "(0 0 nil)");
    t.is("(condition-case nil (let* ((x 1) (y (setq seen x)) (z (error \"e\"))) 1) (error (list x seen (boundp 'y))))", "(0 1 nil)");
    t.is("(catch 'k (let* ((x 1) (x (throw 'k x))) 2))", "1");
    t.is("(condition-case e (let ((x (setq seen 4)) (nil (setq seen (+ seen 1)))) 1) (constant (list e x seen)))", "((constant) 0 5)");
    t.is("(condition-case e (let* ((x 9) (t (setq seen x)) (y (setq seen 8))) 1) (constant (list e x seen)))", "((constant . t) 0 9)");
    t.is("(condition-case e (setq x 1 t 2 x 3) (constant x))", "1");
  }

  private static void leavingCallsOfPrimitives() {
    Talk t = Talk.after("(setq n 0)");
    t.is("(catch 'k (mapcar (lambda (x) (setq n (+ n x)) (if (= x 2) (throw 'k n))) '(1 2 3)))", "3");
    t.is("(condition-case e (mapcar 'car '((1) 2 (3))) (error e))", "(wrong-type . 2)");
    t.is("(mapcar (lambda (x) (condition-case nil (car x) (error 'bad))) '((1) 2 (3)))", "(1 bad 3)");
    t.is("(catch 'k (apply 'throw '(k 4)))", "4");
    t.is("(catch 'k (funcall 'throw 'k (funcall 'eval '(throw 'k 6))))", "6");
    t.is("(condition-case e (eval '(signal 'foo '(1))) (foo (cdr e)))", "(1)");
    t.is("(condition-case e (apply 'signal (list 'fuel-like nil)) (error e))", "(fuel-like)");
    t.is("(unwind-protect (mapcar 'list '(1 2)) (setq n 'cleaned))", "((1) (2))");
    t.is("n", "cleaned");
  }

  private static void leavingMacros() {
    Talk t = Talk.after("(setq x 0)", "(defmacro away (x) (throw 'k x))", "(defmacro later (x) (list 'throw ''k x))",
        "(defmacro broken (x) (car 5))");
    t.is("(catch 'k (away (insert \"not\")) 1)", "(insert \"not\")");
    t.is("(catch 'k (later (+ x 1)) 1)", "1");
    t.is("(condition-case e (broken (insert \"not\")) (wrong-type (list (cdr e) x)))", "(5 0)");
    t.is("(let ((x 4)) (catch 'k (later x)))", "4");
    Talk.same("no text", t.text(0), "");
  }

  /** What was left is under way no more: its levels can be taken again, also by the others. */
  private static void levelsThatAreOver() {
    Talk t = new Talk(8, 30, 5000, 16);
    t.does("(defun f () (f)) (defun deep (n) (if (< 0 n) (deep (- n 1)) 'there)) (setq n 0)");
    t.is("(condition-case e (f) (depth (list e (deep 2))))", "((depth) there)");
    t.is("(let ((n 0)) (while (< n 20) (condition-case nil (f) (depth (setq n (+ n 1))))) n)", "20");
    t.is("(let ((n 0)) (while (< n 20) (catch 'k (progn (progn (throw 'k 1)))) (setq n (+ n 1))) n)", "20");
    t.does("(defun g () (unwind-protect (g) (setq n (+ n 1))))");
    t.fails("(g)", "depth");
    // (g), the call and unwind-protect take three levels, so the fifth unwind-protect has the fifteenth. Of its others
    // setq has the sixteenth and + would have one more: that error takes the place of the first; four went well.
    t.is("n", "4");
    t.fails("(let ((n 0)) (g))", "depth");
    t.is("n", "4");
  }

  /** Error fuel NIL, which nothing handles: but bindings are undone and excursions are over, however they are left. */
  private static void fuelLeavesAll() {
    Talk t = new Talk(8, 30, 100, 40);
    t.does("(buffer \"b\") (insert \"abc\") (goto-char 2) (setq x 0)");
    t.fails("(let ((x 1)) (save-excursion (set-buffer \"b\") (insert \"in b\") (condition-case nil (unwind-protect (catch 'k (while t))"
        + " (setq x 2 seen 1)) (error (setq seen 2)) (fuel (setq seen 3)))))", "fuel");
    Talk.same("steps", t.box.about(0), 100);
    Talk.same("current", t.box.about(6), 0);
    Talk.same("what was done stays", t.text(1), "in b");
    t.is("(list x (boundp 'seen) (point))", "(0 nil 2)");
    t.fails("(let ((x 1)) (unwind-protect (condition-case nil (signal 'fuel x) (error 1) (fuel 2)) (setq x 3 seen 4)))", "fuel: 1");
    t.is("(list x (boundp 'seen))", "(0 nil)");
    t.is("(catch 'fuel (condition-case nil (throw 'fuel 1) (error 2)))", "1");
    t.fails("(unwind-protect (throw 'nowhere 1) (while t))", "fuel");
    t.fails("(condition-case nil (car 1) (error (while t)))", "fuel");
  }

  private static void commandsThatEnd() {
    Talk t = Talk.after("(buffer \"b\") (setq x 0)");
    t.fails("(setq x 1) (insert \"one\") (let ((x 2)) (set-buffer \"b\") (insert x) (error \"stop\")) (insert \"two\")", "stop");
    Talk.same("what was done stays", t.text(0), "one");
    Talk.same("in the other buffer", t.box.sign(1, 1), 2);
    Talk.same("it is current until the next command", t.box.about(6), 1);
    t.is("(list x (buffer-name (current-buffer)))", "(1 \"main\")");
    t.fails("(message \"told before\") (throw 'nowhere 'x)", "no-catch: nowhere");
    t.fails("(message \"told before\") (signal 'foo nil)", "foo");
    t.does("(message \"told\") (condition-case nil (error \"not told\") (error nil))");
    Talk.same("an error that is handled is no message", t.message(), "told");
    t.fails("(insert \"three\") (insert \"four\"", "read-error");
    Talk.same("what was read whole is done", t.text(0), "onethree");
    Talk.same("the tape is empty", t.box.about(10), 0);
  }

  private static void keysThatEnd() {
    Talk t = Talk.after("(setq x 0) (define-key global-map \"e\" (lambda () (let ((x 1)) (insert \"k\") (car x))))",
        "(define-key global-map \"t\" (lambda () (throw 'k last-key)))", "(define-key global-map \"w\" (lambda () (catch 'k (t-key))))",
        "(defun t-key () (let ((x 5)) (unwind-protect (throw 'k x) (message (print (list last-key x))))))");
    Talk.same("e", t.box.key('e'), 2);
    Talk.same("its message", t.message(), "wrong-type: 1");
    Talk.same("t", t.box.key('t'), 2);
    Talk.same("no catch in a key's command", t.message(), "no-catch: k");
    Talk.same("w", t.box.key('w'), 1);
    Talk.same("cleaned", t.message(), "(119 5)");
    t.is("(list x last-key)", "(0 119)");
    Talk.same("the text", t.text(0), "k");
  }
}
