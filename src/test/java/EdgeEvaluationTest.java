/** Terms, EVALUATION: steps, levels, forms, calls and parameters at their edges. */
public final class EdgeEvaluationTest {
  public static void main(String[] args) {
    stepsOfEach();
    fuelJustEnough();
    nothingHandlesFuel();
    fuelUndoesBindings();
    levelsOfEach();
    levelsOfCalls();
    levelsAreOverAgain();
    stepThenLevelThenShape();
    whatHasNoFunction();
    formsThatAreNotProper();
    lambdaLists();
    twentyParameters();
    wordsAmongParameters();
    numbersOfArguments();
    orderOfLooks();
    bindingsAreOver();
    macros();
    Talk.end();
  }

  private static Talk small() {
    Talk t = new Talk(8, 40, 100, 16);
    t.does("(defvar x 1) (defmacro m () 5) (defmacro n (a) a) (defun f (a) a) (defmacro o () '(list)) (defmacro p ())");
    return t;
  }

  /** With just so much fuel it goes well, or meets what it meets; with one less it has too little. */
  private static void steps(String code, int want) {
    Talk t = small();
    t.load(code);
    Talk.same("steps of " + code, t.box.about(0), want);
    Talk other = small();
    other.load(Talk.times("1 ", 100 - want) + code);
    Talk.same("just enough for " + code, other.message(), t.message());
    other = small();
    other.fails(Talk.times("1 ", 101 - want) + code, "fuel");
    Talk.same("all were taken", other.box.about(0), 100);
  }

  /** Each evaluation is a STEP, but for what is not evaluated. */
  private static void stepsOfEach() {
    String[][] cases = {{"1", "1"}, {"nil", "1"}, {"\"s\"", "1"}, {"x", "1"}, {"'x", "1"}, {"'(a b c)", "1"}, {"(list)", "1"}, {"(list 1 x 'a)", "4"},
        {"(if t 1 2)", "3"}, {"(if nil 1 2 3)", "4"}, {"(if nil 1)", "2"}, {"(cond)", "1"}, {"(cond (nil 1) (t 1 2) (t 3))", "5"}, {"(cond (5))", "2"},
        {"(while nil 1)", "2"}, {"(progn)", "1"}, {"(progn 1 2)", "3"}, {"(and)", "1"}, {"(and 1 nil 2)", "3"}, {"(or nil 1 2)", "3"},
        {"(let ((a 1) b (c)) a)", "3"}, {"(let* ((a 1) (b a)) b)", "4"}, {"(lambda (a) b)", "1"}, {"(defun g (a) b)", "1"}, {"(defmacro g (a) b)", "1"},
        {"(defvar x 2)", "1"}, {"(defvar y 2)", "2"}, {"(setq)", "1"}, {"(setq a 1 b a)", "3"}, {"(catch 'a 1)", "3"}, {"(catch 1 (throw 1 2) 3)", "5"},
        {"(condition-case e 1 (error 2))", "2"}, {"(condition-case e (car 5) (error 2 3))", "5"}, {"(unwind-protect 1 2 3)", "4"},
        {"(save-excursion 1 2)", "3"}, {"((lambda (a) a) 1)", "3"}, {"((lambda ()))", "1"}, {"(f 1)", "3"}, {"(funcall 'f 1)", "4"}, {"(apply 'f '(1))", "4"},
        {"(eval 1)", "3"}, {"(eval '(list 1))", "4"}, {"(mapcar 'list '(1 2 3))", "3"}, {"(mapcar 'f '(1 2 3))", "6"}, {"(m)", "3"}, {"(n x)", "3"},
        {"(n (list x))", "4"}, {"(car 5)", "2"}, {"nosuch", "1"}, {"(nosuch 1)", "1"}, {"(list 1 nosuch 2)", "3"}, {"(quote)", "1"}, {"(f)", "1"},
        {"((lambda (a)) 1 2)", "3"}, {"(funcall 5)", "2"}, {"(while (setq x nil))", "3"}};
    for (String[] pair : cases) {
      steps(pair[0], Integer.parseInt(pair[1]));
    }
  }

  /** What would be the F + 1st of a command ends it. */
  private static void fuelJustEnough() {
    Talk t = new Talk(8, 40, 100, 16);
    t.does("(progn" + Talk.times(" 1", 99) + ")");
    Talk.same("steps", t.box.about(0), 100);
    t.fails("(progn" + Talk.times(" 1", 100) + ")", "fuel");
    Talk.same("steps", t.box.about(0), 100);
    t.does("(progn" + Talk.times(" 1", 99) + ")");
    t.fails("(insert ?a) " + Talk.times("1 ", 98) + "(insert ?b)", "fuel");
    Talk.same("what was done stays", t.text(0), "a");
    t.does("(define-key global-map \"k\" '(lambda ()" + Talk.times(" 1", 100) + "))");
    Talk.same("a key's command", t.box.key('k'), 1);
    Talk.same("steps", t.box.about(0), 100);
    t.does("(define-key global-map \"l\" '(lambda ()" + Talk.times(" 1", 101) + "))");
    Talk.same("a key's command", t.box.key('l'), 2);
    Talk.same("message", t.message(), "fuel");
  }

  /** Error fuel NIL, which nothing handles (nor one that is signalled). */
  private static void nothingHandlesFuel() {
    for (String bad : new String[] {"(while t)", "(signal 'fuel nil)"}) {
      for (String code : new String[] {"(condition-case nil " + bad + " (error (insert ?x)))", "(condition-case nil " + bad + " (fuel (insert ?x)))",
          "(condition-case nil " + bad + " ((fuel error) (insert ?x)))", "(unwind-protect " + bad + " (insert ?x))",
          "(catch 'fuel " + bad + " (insert ?x))", "(condition-case nil (unwind-protect " + bad + " (insert ?x)) (error (insert ?y)))",
          "(mapcar (lambda (a) " + bad + ") '(1 2)) (insert ?x)"}) {
        new Talk(8, 40, 100, 16).refuses(code, "fuel");
      }
    }
    new Talk().fails("(condition-case nil (signal 'fuel '(1 2)) (error 1))", "fuel: (1 2)");
    new Talk().is("(catch 'fuel (unwind-protect (throw 'fuel 1) (insert ?x)))", "1");
    new Talk().is("(condition-case e (signal 'fuels 1) (error e))", "(fuels . 1)");
    Talk t = new Talk(8, 40, 100, 16);
    t.fails("(unwind-protect (car 5) (while t))", "fuel");
    t.fails("(condition-case nil (car 5) (error (while t)))", "fuel");
    t.fails("(condition-case nil (condition-case nil (car 5) (error (while t))) (error 1))", "fuel");
  }

  private static void fuelUndoesBindings() {
    Talk t = new Talk(8, 40, 100, 16);
    t.does("(setq a 1) (insert \"abc\")");
    t.fails("(let ((a 2) (b 3)) ((lambda (a c) (let* ((a 4)) (save-excursion (goto-char 1) (set-buffer (buffer \"o\")) (while t)))) 5 6))", "fuel");
    Talk.same("current", t.box.about(6), 0);
    Talk.same("point", t.box.buffer(0, 0), 4);
    t.is("(list a (boundp 'b) (boundp 'c))", "(1 nil nil)");
  }

  private static void levels(String code, int want) {
    Talk t = small();
    t.load(code);
    Talk other = small();
    other.load(Talk.times("(progn ", 16 - want) + code + Talk.times(")", 16 - want));
    Talk.same("sixteen levels with " + code, other.message(), t.message());
    small().fails(Talk.times("(progn ", 17 - want) + code + Talk.times(")", 17 - want), "depth");
  }

  /** Each evaluation of a cons that is under way, and each function of Lisp that is called. */
  private static void levelsOfEach() {
    String[][] cases = {{"(list)", "1"}, {"'a", "1"}, {"(list (list))", "2"}, {"(list 1 (list) (list (list)))", "3"}, {"((lambda ()))", "2"},
        {"((lambda () 1))", "2"}, {"((lambda () (list)))", "3"}, {"((lambda (a) a) (list (list)))", "3"}, {"(f 1)", "2"}, {"(f (list))", "2"},
        {"(p)", "2"}, {"(n 1)", "2"}, {"(n (list))", "2"}, {"(n (list (list)))", "3"}, {"(o)", "3"}, {"(if (list) 1)", "2"}, {"(if t (list))", "2"},
        {"(if nil 1 (list))", "2"}, {"(cond ((list)) (t (list)))", "2"}, {"(while (list))", "2"}, {"(progn (list))", "2"}, {"(and (list))", "2"},
        {"(or (list))", "2"}, {"(let ((a (list))) 1)", "2"}, {"(let () (list))", "2"}, {"(let* ((a (list))) 1)", "2"}, {"(lambda (list (list)))", "1"},
        {"(defun g () (list (list)))", "1"}, {"(defvar q (list))", "2"}, {"(setq q (list))", "2"}, {"(catch (list))", "2"}, {"(catch 1 (list))", "2"},
        {"(condition-case nil (list))", "2"}, {"(condition-case nil (car 5) (error (list)))", "2"}, {"(condition-case nil (list) (error (list (list))))", "2"},
        {"(unwind-protect (list))", "2"}, {"(unwind-protect 1 (list))", "2"}, {"(save-excursion (list))", "2"}, {"(catch 1 (throw 1 2))", "2"},
        {"(car 5)", "1"}, {"(nosuch (list))", "1"}, {"(if)", "1"}, {"(1 . 2)", "1"}, {"((lambda (a)))", "2"}, {"((lambda))", "2"}};
    for (String[] pair : cases) {
      levels(pair[0], Integer.parseInt(pair[1]));
    }
  }

  /** Each call of funcall, apply, mapcar, eval, behind the looks at number and kinds, ahead of all else. */
  private static void levelsOfCalls() {
    String[][] cases = {{"(funcall 5)", "2"}, {"(funcall 'list)", "2"}, {"(funcall (lambda ()))", "3"}, {"(apply 5 nil)", "2"}, {"(apply 'list nil)", "2"},
        {"(apply (lambda ()) nil)", "3"}, {"(eval 1)", "2"}, {"(eval '(list))", "3"}, {"(eval 'nosuch)", "2"}, {"(mapcar 5 nil)", "2"}, {"(mapcar 5 '(1))", "2"},
        {"(mapcar 'list '(1 2))", "2"}, {"(mapcar (lambda (a) a) '(1))", "3"}, {"(mapcar (lambda (a) (list)) '(1))", "4"}, {"(mapcar 'funcall '(list))", "3"},
        {"(mapcar 'eval '((list)))", "4"}, {"(funcall 'funcall 'list)", "3"}, {"(funcall 'apply 'list nil)", "3"}, {"(apply 'mapcar '(list (1)))", "3"},
        {"(apply 'eval '(1))", "3"}, {"(funcall 'throw 1 2)", "2"}, {"(funcall)", "1"}, {"(apply 5 6)", "1"}, {"(apply 5)", "1"}, {"(mapcar 5 6)", "1"},
        {"(eval)", "1"}, {"(eval 1 2)", "1"}, {"(mapcar 5)", "1"}};
    for (String[] pair : cases) {
      levels(pair[0], Integer.parseInt(pair[1]));
    }
    Talk t = Talk.after("(defun deep (n) (if (< 0 n) (deep (- n 1))))");
    t.is("(condition-case e (deep 60) (depth e))", "(depth)");
  }

  private static void levelsAreOverAgain() {
    Talk t = new Talk(8, 40, 5000, 16);
    t.does("(defun f (n) (if (< 0 n) (f (- n 1))))");
    t.does(Talk.times("(f 4) ", 20));
    t.does("(progn " + Talk.times("(f 3) ", 20) + ")");
    t.does("(let ((n 0)) (while (< n 50) (condition-case nil (f 90) (depth (setq n (+ n 1))))))");
    t.does("(let ((n 0)) (while (< n 50) (catch 'a (mapcar (lambda (x) (throw 'a 1)) '(1))) (setq n (+ n 1))))");
    t.does("(mapcar 'f '(3 3 3 3 3 3 3 3))");
  }

  /** STEP, then LEVEL, then whether it is a proper list, then its car. */
  private static void stepThenLevelThenShape() {
    Talk t = new Talk(8, 40, 100, 16);
    String deep = Talk.times("(progn ", 16);
    String close = Talk.times(")", 16);
    t.fails(Talk.times("1 ", 83) + deep + "(list)" + close, "depth");
    t.fails(Talk.times("1 ", 84) + deep + "(list)" + close, "fuel");
    t.fails(deep + "(list . 1)" + close, "depth");
    t.fails(deep + "(nosuch)" + close, "depth");
    t.fails(deep + "(if)" + close, "depth");
    t.fails("(nosuch . 1)", "bad-form: (nosuch . 1)");
    t.fails("(5 . 1)", "bad-form: (5 . 1)");
    t.fails("((lambda) . 1)", "bad-form: ((lambda) . 1)");
    t.fails("(quote . 1)", "bad-form: (quote . 1)");
    t.fails("(lambda . 1)", "bad-form: (lambda . 1)");
    t.fails("(progn (insert ?x) . 1)", "bad-form: (progn (insert 120) . 1)");
    Talk.same("nothing of it was evaluated", t.text(0), "");
  }

  /** Else error void-function it. */
  private static void whatHasNoFunction() {
    String[][] cases = {{"(nosuch)", ": nosuch"}, {"(nil)", ""}, {"(t)", ": t"}, {"(5)", ": 5"}, {"(\"car\")", ": \"car\""}, {"((car))", ": (car)"},
        {"((macro lambda (a) a) 1)", ": (macro lambda (a) a)"}, {"('car)", ": 'car"}, {"(macro)", ": macro"}, {"(keymap)", ": keymap"},
        {"(&rest)", ": &rest"}, {"(global-map)", ": global-map"}, {"(heap-full)", ": heap-full"}};
    for (String[] pair : cases) {
      new Talk().refuses(pair[0], "void-function" + pair[1]);
    }
    for (int n = 0; n < 160; n += 3) {
      new Talk().refuses("(" + n + " nil)", "void-function: " + n);
      new Talk().refuses("(funcall " + n + " nil)", "void-function: " + n);
      new Talk().refuses("(fset 'f " + n + ") (f nil)", "void-function: f");
    }
    for (String v : new String[] {"\"text\"", "#m", "#b"}) {
      Talk t = Talk.after("(setq m (marker 1) b (current-buffer))");
      String code = v.equals("#m") ? "m" : v.equals("#b") ? "b" : v;
      t.refuses("(funcall " + code + ")", "void-function: " + (v.equals("#m") ? "#marker" : v.equals("#b") ? "#buffer main" : v));
      t.refuses("(eval (list " + code + "))", "void-function: " + (v.equals("#m") ? "#marker" : v.equals("#b") ? "#buffer main" : v));
    }
    Talk t = new Talk();
    t.fails("(nosuch (insert ?x))", "void-function: nosuch");
    Talk.same("the function is looked up first", t.text(0), "");
    for (String value : new String[] {"5", "\"car\"", "'nosuch", "'if", "'f", "'(macro)", "'(macro . lambda)", "'(macro foo)", "'(car)", "nil", "t", "'((lambda ()))"}) {
      t = new Talk();
      t.refuses("(fset 'f " + value + ") (f (insert ?x))", "void-function: f");
      t.refuses("(fset 'f " + value + ") (funcall 'f)", "void-function: f");
    }
    new Talk().is("(progn (fset 'f 'car) (fset 'car 'cdr) (list (f '(1 2)) (car '(1 2))))", "(1 (2))");
    new Talk().is("(progn (fset 'quote 'list) (fset 'if 'list) (list 'a (if nil 1 2) (funcall 'if nil 1)))", "(a 2 (nil 1))");
  }

  private static void formsThatAreNotProper() {
    new Talk().refuses("(list 1 . 2)", "bad-form: (list 1 . 2)");
    Talk t = Talk.after("(setq ring (list 'progn 1)) (setcdr (cdr ring) ring)");
    t.refuses("(eval ring)", ("bad-form: (" + Talk.times("progn 1 ", 30)).substring(0, 200));
    t.refuses("(funcall '(lambda . 5))", "bad-form: (lambda . 5)");
    t.refuses("(funcall '(lambda () . 5))", "bad-form: (lambda nil . 5)");
  }

  /** A lambda: a proper list of two things or more. */
  private static void lambdaLists() {
    new Talk().refuses("((lambda))", "bad-form: (lambda)");
    new Talk().is("((lambda ()))", "nil");
    new Talk().is("((lambda () 1))", "1");
    new Talk().refuses("(funcall '(lambda))", "bad-form: (lambda)");
    new Talk().refuses("(mapcar '(lambda) '(1))", "bad-form: (lambda)");
    new Talk().is("(mapcar '(lambda) nil)", "nil");
    new Talk().refuses("(fset 'm '(macro lambda)) (m)", "bad-form: (lambda)");
    new Talk().refuses("(fset 'm '(macro lambda . 5)) (m)", "bad-form: (lambda . 5)");
    new Talk().is("(progn (fset 'm '(macro lambda ())) (m))", "nil");
  }

  private static String letters(int n) {
    StringBuilder all = new StringBuilder();
    for (int i = 0; i < n; i++) {
      all.append(i == 0 ? "" : " ").append((char) ('a' + i));
    }
    return all.toString().replace(" t", " tt");
  }

  /** At most 20 symbols, &optional and &rest among them. */
  private static void twentyParameters() {
    String ones = Talk.times(" 1", 20);
    new Talk().is("((lambda (" + letters(20) + ") (list a tt))" + ones + ")", "(1 1)");
    new Talk().refuses("((lambda (" + letters(21) + ") 1)" + ones + " 1)", "bad-form: (" + letters(21) + ")");
    new Talk().is("((lambda (" + letters(19) + " &optional) s)" + ones.substring(2) + ")", "1");
    new Talk().refuses("((lambda (" + letters(20) + " &optional) a)" + ones + ")", "bad-form: (" + letters(20) + " &optional)");
    new Talk().is("((lambda (" + letters(18) + " &rest s) s)" + ones + ")", "(1 1)");
    new Talk().refuses("((lambda (" + letters(19) + " &rest z) z)" + ones + ")", "bad-form: (" + letters(19) + " &rest z)");
    new Talk().is("((lambda (" + letters(17) + " &optional &rest s) s)" + ones + ")", "(1 1 1)");
    new Talk().refuses("((lambda (" + letters(18) + " &optional &rest s) s)" + ones + ")", "bad-form: (" + letters(18) + " &optional &rest s)");
    for (String bad : new String[] {"nil", "t", "5", "&rest", "(z)"}) {
      new Talk().refuses("((lambda (" + letters(19) + " " + bad + ") 1)" + ones + ")", "bad-form: (" + letters(19) + " " + bad + ")");
      new Talk().refuses("((lambda (" + bad + " " + letters(19) + ") 1)" + ones + ")", "bad-form: (" + bad + " " + letters(19) + ")");
    }
    new Talk().is("((lambda (" + Talk.times("a ", 20) + ") a)" + Talk.times(" 1", 19) + " 2)", "2");
    new Talk().refuses("((lambda (" + Talk.times("a ", 20) + "a) a)" + ones + " 1)", "bad-form: (" + Talk.times("a ", 20) + "a)");
  }

  /** What else PARAMETERS must be: error bad-form PARAMETERS. */
  private static void wordsAmongParameters() {
    for (String bad : new String[] {"5", "a", "t", "\"a\"", "(5)", "(\"a\")", "((a))", "(nil)", "(t)", "(a nil)", "(a &optional t)", "(&rest nil)", "(&rest t)",
        "(a . b)", "(a . 5)", "(&optional &optional)", "(&optional a &optional b)", "(&rest)", "(a &rest)", "(&rest a b)", "(&rest a &optional b)",
        "(&rest &rest)", "(&rest &optional)", "(&rest &rest a)", "(&rest a &rest b)", "(&optional &rest)", "(&rest a &rest)"}) {
      new Talk().refuses("((lambda " + bad + " (insert ?x)))", "bad-form: " + bad);
    }
    new Talk().is("((lambda (&optional) 1))", "1");
    new Talk().is("((lambda (a &optional) a) 2)", "2");
    new Talk().is("((lambda (&optional &rest r) r) 1 2)", "(1 2)");
    new Talk().is("((lambda (&optional a b &rest r) (list a b r)))", "(nil nil nil)");
    new Talk().is("((lambda (a a) a) 1 2)", "2");
    new Talk().is("((lambda (a &rest a) a) 1 2)", "(2)");
    new Talk().is("((lambda (car quote if) (list car quote if)) 1 2 3)", "(1 2 3)");
  }

  /** Too few or too many: error wrong-number-of-args the whole lambda list. */
  private static void numbersOfArguments() {
    int none = 99;
    Object[][] cases = {{"()", 0, 0}, {"(a)", 1, 1}, {"(a b)", 2, 2}, {"(a &optional b)", 1, 2}, {"(&optional a b)", 0, 2}, {"(a &optional)", 1, 1},
        {"(&rest r)", 0, none}, {"(a b &rest r)", 2, none}, {"(a &optional b &rest r)", 1, none}};
    for (Object[] one : cases) {
      for (int n = 0; n < 5; n++) {
        Talk t = new Talk();
        String code = "((lambda " + one[0] + " (insert ?x))" + Talk.times(" 1", n) + ")";
        if (n >= (int) one[1] && n <= (int) one[2]) {
          t.does(code);
          Talk.same("called", t.text(0), "x");
        } else {
          t.refuses(code, "wrong-number-of-args: (lambda " + (one[0].equals("()") ? "nil" : one[0]) + " (insert 120))");
        }
      }
    }
    new Talk().refuses("(defmacro m (a) a) (m)", "wrong-number-of-args: (lambda (a) a)");
    new Talk().refuses("(defmacro m (a) a) (m 1 2)", "wrong-number-of-args: (lambda (a) a)");
  }

  private static void orderOfLooks() {
    new Talk().refuses("((lambda (a . b)) 1)", "bad-form: (a . b)");
    new Talk().refuses("((lambda (a nil)))", "bad-form: (a nil)");
    Talk t = new Talk();
    t.fails("((lambda (a) 1) (insert ?x) (insert ?y))", "wrong-number-of-args: (lambda (a) 1)");
    Talk.same("the arguments are evaluated before", t.text(0), "xy");
    t.fails("((lambda) (insert ?z))", "bad-form: (lambda)");
    Talk.same("the arguments are evaluated before", t.text(0), "xyz");
    t = Talk.after("(setq a 'old)");
    t.fails("((lambda (a b) 1) 2)", "wrong-number-of-args: (lambda (a b) 1)");
    t.is("a", "old");
  }

  /** Until the call is over, however it is; then they are what they were, void or not. */
  private static void bindingsAreOver() {
    for (String body : new String[] {"1", "(car 5)", "(throw 'out 1)", "(signal 'mine 1)", "(setq a 7 b 8)", "((lambda (a) (car a)) 9)"}) {
      Talk t = Talk.after("(setq a 'old)", "(condition-case nil (catch 'out ((lambda (a b) " + body + ") 1 2)) (error 3))");
      t.is("(list a (boundp 'b))", "(old nil)");
      t = Talk.after("(setq a 'old)", "(condition-case nil (catch 'out (let* ((a 1) (b 2)) " + body + ")) (error 3))");
      t.is("(list a (boundp 'b))", "(old nil)");
      t = Talk.after("(setq a 'old)", "(condition-case nil (catch 'out (let ((a 1) (b 2)) " + body + ")) (error 3))");
      t.is("(list a (boundp 'b))", "(old nil)");
    }
    Talk t = Talk.after("(setq a 'old)");
    t.fails("(let ((a 1)) ((lambda (a b) (car 5)) 2 3))", "wrong-type: 5");
    t.is("(list a (boundp 'b))", "(old nil)");
    t.is("((lambda (c) (setq c 5) (set 'c (+ c 1)) c) 1)", "6");
    t.is("(boundp 'c)", "nil");
    t.is("(progn (defun see () a) (list ((lambda (a) (list (see) (let ((a 3)) (see)) (see))) 2) (see)))", "((2 3 2) old)");
  }

  /** A macro is called with what stands there; what it answers is evaluated in its place. */
  private static void macros() {
    Talk t = Talk.after("(defmacro both (a &rest b) (list 'quote (cons a b)))");
    t.is("(both (car 5) nosuch)", "((car 5) nosuch)");
    t.refuses("(both)", "wrong-number-of-args: (lambda (a &rest b) (list 'quote (cons a b)))");
    t.is("(progn (defmacro it () (insert ?x) '(insert ?y)) (it) (region 1 (point-max)))", "\"xy\"");
    t.refuses("(funcall 'both 1)", "void-function: both");
    t.refuses("(apply 'both '(1))", "void-function: both");
    t.refuses("(mapcar 'both '(1))", "void-function: both");
    t.is("(progn (defmacro one () 'two) (defmacro two () '(one)) (setq two 5) (one))", "5");
    t = new Talk(8, 40, 200, 16);
    t.fails("(defmacro again () '(again)) (again)", "depth");
  }
}
