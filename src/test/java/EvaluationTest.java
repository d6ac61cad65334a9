/** Promise 4: evaluation, calls, special forms, errors. */
public final class EvaluationTest {
  public static void main(String[] args) {
    values();
    calls();
    parameters();
    macros();
    simpleForms();
    lets();
    definitions();
    leaving();
    shapes();
    stepsAndLevels();
    Talk.end();
  }

  private static void values() {
    Talk t = new Talk();
    t.is("(list 5 \"s\" nil t 'a)", "(5 \"s\" nil t a)");
    t.fails("a", "void-variable: a");
    t.fails("(a)", "void-function: a");
    t.fails("(5)", "void-function: 5");
    t.fails("(nil)", "void-function");
    t.fails("((list 1))", "void-function: (list 1)");
    t.fails("(list . 5)", "bad-form: (list . 5)");
    t.fails("(nosuch 1 . 2)", "bad-form: (nosuch 1 . 2)");
    t.fails("(setq c (list 'list 1)) (setcdr (cdr c) c) (eval c)", "bad-form: " + ("(" + Talk.times("list 1 ", 40)).substring(0, 190));
    t.fails("((macro lambda (x) x) 1)", "void-function: (macro lambda (x) x)");
  }

  private static void calls() {
    Talk t = new Talk();
    t.is("((lambda (x y) (list y x)) 1 2)", "(2 1)");
    t.is("((lambda ()))", "nil");
    t.is("((lambda (x) 1 2 x) 3)", "3");
    t.fails("((lambda))", "bad-form: (lambda)");
    t.fails("((lambda . 5) (setq q 1))", "bad-form: (lambda . 5)");
    t.is("q", "1");
    t.fails("((lambda x 1) 2)", "bad-form: x");
    t.is("(fset 'f 'car)", "car");
    t.is("(f '(1 2))", "1");
    t.fails("(f)", "wrong-number-of-args: car");
    t.fails("(fset 'f 'g) (f)", "void-function: f");
    t.fails("(fset 'f 5) (f)", "void-function: f");
    t.fails("(fset 'f 'if) (f 1 2)", "void-function: f");
    t.fails("(fset 'f '(macro . 5)) (f)", "void-function: f");
    t.is("(progn (fset 'if 'list) (if nil 1 2))", "2");
    t.is("(funcall 'if nil 1 2)", "(nil 1 2)");
    t.fails("(defun f () 1) (f (setq f-done t) (fset 'f 'list))", "wrong-number-of-args: (lambda nil 1)");
    t.is("(f 2)", "(2)");
    t.fails("(fset 'car nil) (car nil)", "void-function: car");
    t.is("(fset 'car 'car)", "car");
    t.is("(funcall '+ 1 2 3)", "6");
    t.is("(funcall (lambda (x) (* x x)) 5)", "25");
    t.fails("(funcall 'nosuch)", "void-function: nosuch");
    t.fails("(funcall 'quote 1)", "void-function: quote");
    t.fails("(funcall \"f\")", "void-function: \"f\"");
    t.is("(apply '+ '(1 2 3))", "6");
    t.fails("(apply '+ '(1 . 2))", "wrong-type: (1 . 2)");
    t.fails("(apply '+ 1 '(2))", "wrong-number-of-args: apply");
    t.is("(eval '(+ 1 2))", "3");
    t.is("(eval ''a)", "a");
    t.fails("(eval 'a)", "void-variable: a");
    t.is("(mapcar 'list '(1 2))", "((1) (2))");
    t.is("(mapcar 'nosuch nil)", "nil");
    t.fails("(mapcar 'nosuch '(1))", "void-function: nosuch");
    t.fails("(mapcar 'list '(1 . 2))", "wrong-type: (1 . 2)");
    t.is("(let ((l (list 1 2 3))) (mapcar (lambda (x) (setcdr l nil) (setcar l 9) x) l))", "(1 2 3)");
  }

  private static void parameters() {
    Talk t = new Talk();
    t.does("(defun f (a &optional b c &rest d) (list a b c d))");
    t.is("(f 1)", "(1 nil nil nil)");
    t.is("(f 1 2 3 4 5)", "(1 2 3 (4 5))");
    t.fails("(f)", "wrong-number-of-args: (lambda (a &optional b c &rest d) (list a b c d))");
    t.is("((lambda (a a) a) 1 2)", "2");
    t.is("((lambda (a &optional) a) 1)", "1");
    t.is("((lambda (&optional &rest r) r) 1 2)", "(1 2)");
    t.fails("((lambda (a) a) 1 2)", "wrong-number-of-args: (lambda (a) a)");
    t.fails("((lambda (a &optional b) a) 1 2 3)", "wrong-number-of-args: (lambda (a &optional b) a)");
    for (String bad : new String[] {"(&rest)", "(&rest a b)", "(a &rest &optional)", "(&rest &rest)", "(&optional a &optional b)",
        "(nil)", "(t)", "(5)", "(a . b)", "5", "(&rest a &rest b)", "((a))", "(a b c d e f g h i j k l m n o p q r s &optional u)"}) {
      t.fails("((lambda " + bad + " 1) 2 3)", "bad-form: " + bad);
    }
    t.is("(let ((a 5)) ((lambda (a b c d e f g h i j k l m n o p q r s &optional) a) 1 2 3 4 5 6 7 8 9 0 1 2 3 4 5 6 7 8 9))", "1");
    t.is("((lambda (a b c d e f g h i j k l m n o p q r s u) (list a b s u)) 1 2 3 4 5 6 7 8 9 10 11 12 13 14 15 16 17 18 19 20)", "(1 2 19 20)");
    t.is("((lambda (a b c d e f g h i j k l m n o p q r &rest u) (list r u)) 1 2 3 4 5 6 7 8 9 10 11 12 13 14 15 16 17 18 19 20)", "(18 (19 20))");
    t.fails("((lambda (a b) (setq got b) (car 5)) 1 2)", "wrong-type: 5");
    t.fails("a", "void-variable: a");
    t.is("got", "2");
    t.does("(setq a 'old) ((lambda (a) (setq a 7)) 1)");
    t.is("a", "old");
    t.is("(progn (defun show-a () a) ((lambda (a) (show-a)) 'bound-last))", "bound-last");
  }

  private static void macros() {
    Talk t = new Talk();
    t.does("(defmacro twice (x) (list 'list x x)) (setq n 0)");
    t.is("(twice (setq n (+ n 1)))", "(1 2)");
    t.is("(symbol-function 'twice)", "(macro lambda (x) (list 'list x x))");
    t.fails("(twice)", "wrong-number-of-args: (lambda (x) (list 'list x x))");
    t.fails("(funcall 'twice 1)", "void-function: twice");
    t.fails("(fset 'm '(macro lambda)) (m)", "bad-form: (lambda)");
    t.is("(progn (defmacro m () ''answer) (m))", "answer");
    t.is("(progn (defmacro m (&rest r) (cons 'list r)) (m 1 (+ 1 1)))", "(1 2)");
    t.fails("(defmacro m () 'void) (m)", "void-variable: void");
  }

  private static void simpleForms() {
    Talk t = new Talk();
    t.is("(setq)", "nil");
    t.is("(setq a 1 b (+ a 1))", "2");
    t.is("(list a b)", "(1 2)");
    t.fails("(setq nil (setq done 1))", "constant");
    t.is("done", "1");
    t.fails("(setq a 5 t 6 b 7)", "constant: t");
    t.is("(list a b)", "(5 2)");
    t.is("(list (if t 1 2) (if nil 1 2 3) (if nil 1))", "(1 3 nil)");
    t.is("(list (cond) (cond (nil 1)) (cond (5)) (cond (nil) (t 1 2)))", "(nil nil 5 2)");
    t.is("(let ((n 0)) (list (while (< n 3) (setq n (+ n 1))) n))", "(nil 3)");
    t.is("(list (progn) (progn 1 2))", "(nil 2)");
    t.is("(list (and) (and 1 2) (and nil (car 5)) (or) (or nil 3 (car 5)) (or nil))", "(t 2 nil nil 3 nil)");
    t.is("(lambda . nil)", "(lambda)");
    t.is("(lambda anything at all)", "(lambda anything at all)");
    t.is("(let ((x '(lambda (a) a))) (eq x (eval x)))", "t");
  }

  private static void lets() {
    Talk t = new Talk();
    t.does("(setq x 'outer)");
    t.is("(let ((x 1) (y x)) (list x y))", "(1 outer)");
    t.is("(let* ((x 1) (y x)) (list x y))", "(1 1)");
    t.is("(let (x (y) (x 3)) (list x y))", "(3 nil)");
    t.is("(let ())", "nil");
    t.is("x", "outer");
    t.fails("(boundp 'y) y", "void-variable: y");
    t.fails("(let ((x 1) (nil (setq q 2)) (t 3)) 4)", "constant");
    t.is("(list x q)", "(outer 2)");
    t.fails("(let* ((x 1) (t x) (nil (setq q 9))) 4)", "constant: t");
    t.is("(list x q)", "(outer 2)");
    t.fails("(let (nil) 4)", "constant");
    t.fails("(let ((x 1)) (car x))", "wrong-type: 1");
    t.is("x", "outer");
    t.is("(let (a b c d e f g h i j k l m n o p q r s u) 1)", "1");
    t.fails("(let (a b c d e f g h i j k l m n o p q r s u v) 1)", "bad-form: (let (a b c d e f g h i j k l m n o p q r s u v) 1)");
  }

  private static void definitions() {
    Talk t = new Talk();
    t.is("(defun f (x) 1 (+ x 1))", "f");
    t.is("(f 1)", "2");
    t.is("(symbol-function 'f)", "(lambda (x) 1 (+ x 1))");
    t.is("(let ((form '(defun g (x) x))) (eval form) (eq (cdr (symbol-function 'g)) (cdr (cdr form))))", "t");
    t.is("(defun h nil)", "h");
    t.is("(h)", "nil");
    t.is("(defun odd 5 6)", "odd");
    t.fails("(odd)", "bad-form: 5");
    t.fails("(defun nil () 1)", "constant");
    t.fails("(defmacro t () 1)", "constant: t");
    t.is("(defvar v 5)", "v");
    t.is("(progn (defvar v (car 5)) v)", "5");
    t.is("(defvar nil (car 5))", "nil");
    t.does("(defun cells () 1)");
    Talk.same("cells", t.box.about(2), 4 + 1);
    t.does("(defmacro cells () 1)");
    Talk.same("cells", t.box.about(2), 4 + 2);
  }

  private static void leaving() {
    Talk t = new Talk();
    t.is("(catch 'a (throw 'a 1) 2)", "1");
    t.is("(list (catch 'a) (catch 'a 1 2))", "(nil 2)");
    t.does("(catch 'a (throw 'a 1) (car 5))");
    t.is("(catch 'a (catch 'b (throw 'a 1)) 2)", "1");
    t.is("(catch 'a (list (catch 'a (throw 'a 1)) 2))", "(1 2)");
    t.is("(catch 5 (throw 5 1))", "1");
    t.fails("(catch \"a\" (throw \"a\" 1))", "no-catch: \"a\"");
    t.fails("(throw 'a 1)", "no-catch: a");
    t.fails("(catch (throw 'a 1))", "no-catch: a");
    t.is("(condition-case e (throw 'a 1) (no-catch e))", "(no-catch . a)");
    t.is("(condition-case e 5 (error 6))", "5");
    t.is("(condition-case e (car 5) (error e))", "(wrong-type . 5)");
    t.is("(condition-case nil (car 5) (arith 1) (wrong-type 2 3) (error 4))", "3");
    t.is("(condition-case nil (car 5) ((arith wrong-type) 1))", "1");
    t.is("(condition-case nil (car 5) ((arith error . x) 1))", "1");
    t.is("(condition-case nil (car 5) (wrong-type))", "nil");
    t.is("(condition-case nil (signal nil 3) (nil 1))", "1");
    t.fails("(condition-case nil (car 5) (arith 1) (5 2) ((6 . 7) 3))", "wrong-type: 5");
    t.fails("(condition-case t (car 5) (error 1))", "constant: t");
    t.does("(setq big '(0)) (let ((n 0)) (while (< n 11) (setq n (+ n 1) big (append big big)))) (setq big (append big nil))");
    t.does("(setq big (append big big)) (setcar (nthcdr 4095 big) 'error)");
    t.is("(eval (list 'condition-case nil '(car 5) (list big 7)))", "7");
    t.fails("(eval (list 'condition-case nil '(car 5) (list (cons 0 big) 7)))", "wrong-type: 5");
    t.does("(setq big nil)");
    t.fails("(condition-case e (car 5) (error (car 6)) (wrong-type 7))", "wrong-type: 6");
    t.fails("(condition-case e 1) e", "void-variable: e");
    t.does("(condition-case e (car 5) (error e))");
    Talk.same("cells with the cons that is told", t.box.about(2), 4 + 2 + 2 + 1);
    t.does("(condition-case nil (car 5) (error 1))");
    Talk.same("cells without", t.box.about(2), 4 + 2 + 2);
    t.fails("(condition-case nil (while t) (error 1) (fuel 2))", "fuel");
    t.fails("(condition-case nil (signal 'fuel 3) (error 1) (fuel 2))", "fuel: 3");
    t.is("(let ((l nil)) (list (catch 'a (unwind-protect (throw 'a 1) (setq l (cons 2 l)) 3)) l))", "(1 (2))");
    t.is("(unwind-protect 1 2 3)", "1");
    t.fails("(unwind-protect (car 5) (setq done 'yes))", "wrong-type: 5");
    t.is("done", "yes");
    t.fails("(unwind-protect (car 5) (cdr 6))", "wrong-type: 6");
    t.is("(catch 'a (unwind-protect (throw 'a 1) (throw 'a 2)))", "2");
    t.fails("(unwind-protect (while t) (setq done 'never))", "fuel");
    t.fails("(unwind-protect (signal 'fuel nil) (setq done 'never))", "fuel");
    t.is("done", "yes");
    t.fails("(error \"told so\")", "told so");
    t.fails("(signal 'error \"told so\")", "told so");
    t.fails("(signal 'error 5)", "error: 5");
    t.fails("(signal 'mine '(1 \"a\"))", "mine: (1 \"a\")");
    t.fails("(signal 'mine nil)", "mine");
    t.fails("(let ((a 1)) (while t))", "fuel");
    t.fails("a", "void-variable: a");
    t.does("(insert \"abc\") (goto-char 2)");
    t.is("(save-excursion (goto-char 1) (insert \"xy\") (set-buffer (buffer \"b\")) 5)", "5");
    t.is("(list (point) (current-buffer))", "(4 #buffer main)");
    t.is("(save-excursion (insert \"here\") (point))", "8");
    t.is("(point)", "4");
    t.fails("(save-excursion (goto-char 1) (set-buffer \"b\") (while t))", "fuel");
    Talk.same("back also without fuel", t.box.about(6), 0);
    t.is("(point)", "4");
    t.is("(progn (goto-char 3) (list (save-excursion (goto-char 2) (list (save-excursion (goto-char 5) (insert \"q\") (point)) (point))) (point)))", "((6 2) 3)");
    t.is("(list (save-excursion (set-buffer \"b\") (list (save-excursion (set-buffer (buffer \"c\")) (current-buffer)) (current-buffer))) (current-buffer))",
        "((#buffer c #buffer b) #buffer main)");
    t.is("(progn (catch 'a (save-excursion (delete-region 1 (point-max)) (throw 'a 1))) (point))", "1");
  }

  private static void shapes() {
    Talk t = new Talk();
    for (String bad : new String[] {"(quote)", "(quote a b)", "(setq a)", "(setq 5 6)", "(setq a 1 b)", "(if)", "(if t)", "(cond 5)", "(cond nil)",
        "(cond (1 . 2))", "(cond (1) nil)", "(while)", "(let)", "(let 5)", "(let (5))", "(let ((a 1 2)))", "(let ((5 1)))", "(let ((a . 1)))", "(let (a . b))",
        "(let* ((a 1 2)))", "(let ((a) (nil nil nil)))", "(defun)", "(defun f)", "(defun 5 nil)", "(defmacro f)", "(defvar)", "(defvar a)", "(defvar a 1 2)",
        "(defvar 5 1)", "(catch)", "(condition-case)", "(condition-case e)", "(condition-case 5 1)", "(condition-case e 1 nil)",
        "(condition-case e 1 (a . b))", "(condition-case e 1 a)", "(unwind-protect)"}) {
      t.fails(bad, "bad-form: " + bad);
    }
    t.fails("(cond ((setq done 1)) 5)", "bad-form: (cond ((setq done 1)) 5)");
    t.fails("(let ((a (setq done 1)) 5))", "bad-form: (let ((a (setq done 1)) 5))");
    t.fails("(let* ((a (setq done 1)) (b . 5)))", "bad-form: (let* ((a (setq done 1)) (b . 5)))");
    t.fails("(setq a (setq done 1) 5 6)", "bad-form: (setq a (setq done 1) 5 6)");
    t.fails("(condition-case nil (setq done 1) 5)", "bad-form: (condition-case nil (setq done 1) 5)");
    t.fails("done", "void-variable: done");
    t.does("(save-excursion) (progn) (and) (or) (cond) (lambda)");
  }

  private static void stepsAndLevels() {
    Talk t = new Talk(12, 40, 100, 16);
    t.does("1");
    Talk.same("a step", t.box.about(0), 1);
    t.does("'a (quote a)");
    Talk.same("what is quoted is none", t.box.about(0), 2);
    t.does("(list 1 (car nil))");
    Talk.same("steps", t.box.about(0), 4);
    t.does("(defmacro m () 5) (m)");
    Talk.same("a macro's answer is one more", t.box.about(0), 4);
    t.does("(let ((a 1) b) a)");
    Talk.same("let", t.box.about(0), 3);
    t.does("(mapcar 'list '(1 2 3))");
    Talk.same("mapcar calls without steps", t.box.about(0), 3);
    t.does("(eval 5) (funcall 'list 1)");
    Talk.same("eval", t.box.about(0), 2 + 1 + 3);
    t.fails("(setq l nil) (while t (setq l (cons 1 l)))", "fuel");
    Talk.same("all fuel", t.box.about(0), 100);
    // (n (n ..)): 16 forms in each other are 16 levels.
    t.is("15", "15");
    t.does(Talk.times("(progn ", 16) + "1" + Talk.times(")", 16));
    t.fails(Talk.times("(progn ", 17) + "1" + Talk.times(")", 17), "depth");
    Talk.same("the step was taken", t.box.about(0), 17);
    t.does(Talk.times("(progn ", 16) + "nil" + Talk.times(")", 16));
    t.is("(condition-case e " + Talk.times("(progn ", 17) + "1" + Talk.times(")", 17) + " (depth e))", "(depth)");
    // message, print: two levels; funcall's form and funcall: two; the lambda's: one.
    t.does(Talk.times("(progn ", 13) + "(funcall (lambda () 1))" + Talk.times(")", 13));
    t.fails(Talk.times("(progn ", 14) + "(funcall (lambda () 1))" + Talk.times(")", 14), "depth");
    t.does(Talk.times("(progn ", 14) + "(funcall 'list)" + Talk.times(")", 14));
    t.fails(Talk.times("(progn ", 15) + "(funcall 'nosuch)" + Talk.times(")", 15), "depth");
    t.fails(Talk.times("(progn ", 15) + "(funcall)" + Talk.times(")", 15), "wrong-number-of-args: funcall");
    t.fails(Talk.times("(progn ", 15) + "(apply nil 5)" + Talk.times(")", 15), "wrong-type: 5");
    t.fails(Talk.times("(progn ", 15) + "(apply 'list nil)" + Talk.times(")", 15), "depth");
    t.fails(Talk.times("(progn ", 15) + "(mapcar 'list nil)" + Talk.times(")", 15), "depth");
    t.fails(Talk.times("(progn ", 15) + "(eval 1)" + Talk.times(")", 15), "depth");
    t.does(Talk.times("(progn ", 14) + "(eval 1)" + Talk.times(")", 14));
    t.fails(Talk.times("(progn ", 15) + "((lambda))" + Talk.times(")", 15), "depth");
    t.fails(Talk.times("(progn ", 14) + "((lambda))" + Talk.times(")", 14), "bad-form: (lambda)");
    t.does(Talk.times("(progn ", 13) + "(mapcar (lambda (x) x) '(1))" + Talk.times(")", 13));
    t.fails(Talk.times("(progn ", 16) + "(a . b)" + Talk.times(")", 16), "depth");
    t.fails(Talk.times("(progn ", 15) + "(a . b)" + Talk.times(")", 15), "bad-form: (a . b)");
    t.is("(apply 'funcall '(funcall funcall funcall list 1 2))", "(1 2)");
    t.fails("(apply 'funcall '(" + Talk.times("funcall ", 20) + "list 1 2))", "depth");
  }
}
