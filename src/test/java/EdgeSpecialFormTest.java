/** Terms, EVALUATION: the special forms at their edges. */
public final class EdgeSpecialFormTest {
  public static void main(String[] args) {
    notAsTold();
    justAsTold();
    lookedAtFirst();
    setq();
    conditions();
    loops();
    lets();
    twentyEntries();
    constantsWhenItComesToThem();
    definitions();
    catches();
    conditionCase();
    listOfConditions();
    manyClauses();
    unwindProtect();
    saveExcursion();
    alteredForms();
    alteredLets();
    Talk.end();
  }

  /** A special form has not what is told of it: error bad-form it. */
  private static void notAsTold() {
    for (String bad : new String[] {"(quote)", "(quote a b)", "(setq a)", "(setq a 1 b)", "(setq 5 1)", "(setq \"a\" 1)", "(setq (a) 1)", "(setq a 1 5 2)",
        "(if)", "(if (insert 120))", "(cond 5)", "(cond a)", "(cond nil)", "(cond ((insert 120)) nil)", "(cond ((insert 120) . 1))", "(cond ((insert 120)) (1 . 2))",
        "(while)", "(let)", "(let a)", "(let 5)", "(let \"a\")", "(let (5))", "(let (\"a\"))", "(let ((5 1)))", "(let ((a (insert 120) 2)))", "(let ((a . 1)))",
        "(let ((a 1 . 2)))", "(let (a . b))", "(let ((nil nil nil)))", "(let (((a) 1)))", "(let*)", "(let* 5)", "(let* ((a (insert 120)) 5))", "(let* (a . b))",
        "(defun)", "(defun f)", "(defun 5 nil)", "(defun (f) nil)", "(defun \"f\" nil 1)", "(defmacro)", "(defmacro f)", "(defmacro 5 nil)", "(defvar)",
        "(defvar a)", "(defvar a (insert 120) 2)", "(defvar 5 (insert 120))", "(catch)", "(condition-case)", "(condition-case e)", "(condition-case 5 (insert 120))",
        "(condition-case \"e\" (insert 120))", "(condition-case (e) (insert 120))", "(condition-case e (insert 120) nil)", "(condition-case e (insert 120) 5)",
        "(condition-case e (insert 120) error)", "(condition-case e (insert 120) (a . b))", "(condition-case e (insert 120) (error 1) (a 1 . b))", "(unwind-protect)"}) {
      new Talk().refuses(bad, "bad-form: " + bad);
    }
  }

  private static void justAsTold() {
    String[][] cases = {{"(quote a)", "a"}, {"(setq)", "nil"}, {"(if 1 2)", "2"}, {"(if nil 2)", "nil"}, {"(cond)", "nil"}, {"(cond (1))", "1"}, {"(while nil)", "nil"},
        {"(progn)", "nil"}, {"(and)", "t"}, {"(or)", "nil"}, {"(let nil)", "nil"}, {"(let ())", "nil"}, {"(let (a) a)", "nil"}, {"(let ((a)) a)", "nil"},
        {"(let ((a 1)) a)", "1"}, {"(let* ())", "nil"}, {"(lambda)", "(lambda)"}, {"(lambda 5)", "(lambda 5)"}, {"(defun f nil)", "f"}, {"(defun f 5)", "f"},
        {"(defmacro f 5 6)", "f"}, {"(defvar v 1)", "v"}, {"(catch 1)", "nil"}, {"(condition-case e 1)", "1"}, {"(condition-case nil 1 (error))", "1"},
        {"(condition-case nil (car 5) (error))", "nil"}, {"(condition-case e 1 (nil) (5 2) (\"a\") ((1 . 2)))", "1"}, {"(unwind-protect 1)", "1"},
        {"(save-excursion)", "nil"}};
    for (String[] pair : cases) {
      new Talk().is(pair[0], pair[1]);
    }
  }

  /** Looked at when it is begun, all of it but what is evaluated. */
  private static void lookedAtFirst() {
    for (String bad : new String[] {"(setq a (insert 120) 5 1)", "(cond ((insert 120)) (nil) 5)", "(let ((a (insert 120)) (b 1 2)) 1)",
        "(let* ((a (insert 120)) (b 1 2)) 1)", "(condition-case nil (insert 120) (error 1) nil)", "(if (insert 120))"}) {
      new Talk().refuses(bad, "bad-form: " + bad);
    }
    // What is evaluated is not looked at before.
    Talk t = new Talk();
    t.fails("(progn (insert ?x) (if))", "bad-form: (if)");
    Talk.same("came to it", t.text(0), "x");
    t.fails("(cond ((insert ?y) 1) (t (quote)))", "bad-form: (quote)");
    Talk.same("came to it", t.text(0), "xy");
    t.is("(if t 1 (quote))", "1");
    t.is("(and nil (quote))", "nil");
  }

  private static void setq() {
    Talk t = new Talk();
    t.is("(setq a 1 b (+ a 1) a (+ b 1))", "3");
    t.is("(list a b)", "(3 2)");
    t.fails("(setq a 5 b nosuch a 6)", "void-variable: nosuch");
    t.is("(list a b)", "(5 2)");
  }

  private static void conditions() {
    Talk t = new Talk();
    t.is("(list (if 0 1 2) (if \"\" 1 2) (if nil 1 2) (if nil 1 2 3) (if t 1))", "(1 1 2 3 1)");
    t.is("(list (cond (nil 1) (nil)) (cond (nil 1) (2)) (cond (1 2 3) (t 4)) (cond (1 nil)))", "(nil 2 3 nil)");
    t.is("(list (and 1) (and nil) (and 1 2) (and 1 nil 3) (or 1) (or nil) (or nil nil) (or nil 2 3))", "(1 nil 2 nil 1 nil nil 2)");
    t.refuses("(and nil (insert ?x)) (or 1 (insert ?x)) (if t 1 (insert ?x)) (if nil (insert ?x)) (cond (nil (insert ?x)) (1) ((insert ?x))) (car 5)", "wrong-type: 5");
  }

  private static void loops() {
    Talk t = new Talk();
    t.is("(let ((n 3) (l nil)) (while (< 0 n) (setq l (cons n l)) (setq n (- n 1))) l)", "(1 2 3)");
    t.is("(list (while nil (insert ?x)) (point-max))", "(nil 1)");
    t.is("(let ((n 2)) (while (< 0 (setq n (- n 1)))) n)", "0");
  }

  private static void lets() {
    Talk t = Talk.after("(setq x 'out y 'out)");
    t.is("(let ((x 1) (y x)) (list x y))", "(1 out)");
    t.is("(let* ((x 1) (y x)) (list x y))", "(1 1)");
    t.is("(let ((x 1) (x 2)) x)", "2");
    t.is("(let* ((x 1) (x (+ x 1)) x) x)", "nil");
    t.is("(list x y (let ((x 5) (x 6)) 1) x)", "(out out 1 out)");
    t.fails("(let ((x 1) (y (car x))) 1)", "wrong-type: out");
    t.fails("(let* ((x 1) (y (car x))) 1)", "wrong-type: 1");
    t.is("(list x y)", "(out out)");
  }

  private static String letters(int n) {
    StringBuilder all = new StringBuilder();
    for (int i = 0; i < n; i++) {
      all.append(i == 0 ? "" : " ").append((char) ('a' + i));
    }
    return all.toString().replace(" t", " tt");
  }

  /** At most 20 of y, (y), (y e). */
  private static void twentyEntries() {
    for (String let : new String[] {"let", "let*"}) {
      new Talk().is("(" + let + " (" + letters(20) + ") (list a tt))", "(nil nil)");
      new Talk().refuses("(" + let + " (" + letters(21) + ") (insert 120))", "bad-form: (" + let + " (" + letters(21) + ") (insert 120))");
      new Talk().is("(" + let + " (" + Talk.times("(a 1) ", 20) + ") a)", "1");
      new Talk().refuses("(" + let + " (" + letters(19) + " 5) (insert 120))", "bad-form: (" + let + " (" + letters(19) + " 5) (insert 120))");
      new Talk().refuses("(" + let + " (" + letters(19) + " (z 1 2)) (insert 120))", "bad-form: (" + let + " (" + letters(19) + " (z 1 2)) (insert 120))");
      String entries = Talk.times("(a 1) ", 20) + "(a 1)";
      new Talk().refuses("(" + let + " (" + entries + ") (insert 120))", "bad-form: (" + let + " (" + entries + ") (insert 120))");
      new Talk().refuses("(" + let + " (" + Talk.times("(a) ", 20) + "a) a)", "bad-form: (" + let + " (" + Talk.times("(a) ", 20) + "a) a)");
    }
    // 20 in each of many that are in each other.
    Talk t = new Talk(8, 40, 5000, 150);
    t.does("(defun deep (n) (let ((a n) (b n) (c n) (d n) (e n) (f n) (g n) (h n) (i n) (j n) (k n) (l n) (m n) (o n) (p n) (q n) (r n) (s n) (u n) (v n))"
        + " (if (< 0 n) (deep (- n 1)) v)))");
    t.is("(deep 30)", "0");
    t.fails("(deep 60)", "depth");
    t.is("(list (boundp 'a) (boundp 'v) (boundp 'n))", "(nil nil nil)");
  }

  /** NIL and T can't be bound: error constant it, when it comes to that; what was bound ahead of it is undone. */
  private static void constantsWhenItComesToThem() {
    Talk t = Talk.after("(setq x 'out)");
    t.fails("(let ((x 1) (t (insert ?a)) (y (insert ?b))) (insert ?c))", "constant: t");
    Talk.same("all e are evaluated, then bound", t.text(0), "ab");
    t.is("(list x (boundp 'y))", "(out nil)");
    t.fails("(let* ((x 1) (t (insert ?c)) (y (insert ?d))) (insert ?e))", "constant: t");
    Talk.same("each bound before the next", t.text(0), "abc");
    t.is("(list x (boundp 'y))", "(out nil)");
    t.fails("(setq x 1 nil (insert ?d) y (insert ?e))", "constant");
    Talk.same("behind e", t.text(0), "abcd");
    t.is("(list x (boundp 'y))", "(1 nil)");
    t.fails("(condition-case t (insert ?e) (error 1)) (condition-case t (car 5) (error (insert ?f)))", "constant: t");
    Talk.same("only where there is an error", t.text(0), "abcde");
    t.is("(condition-case e (condition-case t (car 5) (error 1)) (constant e))", "(constant . t)");
  }

  private static void definitions() {
    Talk t = new Talk();
    t.is("(list (defun f (a) a) (f 1) (defmacro g (a) a) (g 2) (defvar h (+ 1 2)) h (defvar h nosuch) h)", "(f 1 g 2 h 3 h 3)");
    t.is("(list (defvar nil nosuch) (defvar t nosuch))", "(nil t)");
    t.is("(let ((form '(defun k (a) b))) (eval form) (eq (cdr (symbol-function 'k)) (cdr (cdr form))))", "t");
    t.is("(let ((form '(defmacro k (a) b))) (eval form) (list (eq (cdr (cdr (symbol-function 'k))) (cdr (cdr form))) (symbol-function 'k)))",
        "(t (macro lambda (a) b))");
    t.fails("(defvar i nosuch)", "void-variable: nosuch");
    t.is("(boundp 'i)", "nil");
    for (String word : new String[] {"nil", "t"}) {
      for (String form : new String[] {"defun", "defmacro"}) {
        t = Cells.evaluated("", "(" + form + " " + word + " () 1)", 0);
        Talk.same("constant ahead of all that is made", t.message(), word.equals("t") ? "constant: t" : "constant");
      }
    }
  }

  /** The newest catch under way whose tag is EQ; without one it is, there, error no-catch the tag. */
  private static void catches() {
    Talk t = new Talk();
    t.is("(list (catch 'a (throw 'a 1) 2) (catch 5 (throw 5 1)) (catch nil (throw nil 1)) (let ((s \"a\")) (catch s (throw s 1))))", "(1 1 1 1)");
    t.is("(catch 'a (list (catch 'a (throw 'a 1)) 2))", "(1 2)");
    t.is("(catch 'a (list (catch 'b (throw 'a 1)) 2))", "1");
    t.refuses("(catch \"a\" (throw \"a\" 1))", "no-catch: \"a\"");
    t.refuses("(catch '(1) (throw '(1) 1))", "no-catch: (1)");
    t.refuses("(throw nil 1)", "no-catch");
    t.refuses("(catch 'a 1) (throw 'a 1)", "no-catch: a");
    t.refuses("(catch (throw 'a 1) 1)", "no-catch: a");
    t.is("(condition-case e (throw 'a 1) (no-catch e))", "(no-catch . a)");
    t.is("(catch 'a (condition-case e (throw 'a 1) (error 2)))", "1");
    t.is("(catch 'a (condition-case e (car 5) (error (throw 'a e))))", "(wrong-type . 5)");
    t.is("(catch 'a (catch (progn (throw 'a 1) 'b) 2) 3)", "1");
    t.is("(catch 'a (mapcar (lambda (x) (if (= x 2) (throw 'a x) x)) '(1 2 3)))", "2");
    t.is("(catch 'a (eval '(apply 'throw '(a 3))))", "3");
    t.is("(let ((x 1)) (list (catch 'a (let ((x 2)) (throw 'a x))) x))", "(2 1)");
    t.refuses("(unwind-protect 1 (throw 'a 1))", "no-catch: a");
  }

  private static void conditionCase() {
    Talk t = new Talk();
    t.is("(condition-case e (car 5) (arith 1) (wrong-type 2) (error 3))", "2");
    t.is("(condition-case e (car 5) (error 3) (wrong-type 2))", "3");
    t.is("(condition-case e (car 5) ((arith wrong-type) 1))", "1");
    t.is("(condition-case e (car 5) ((arith . wrong-type) 1) (error 2))", "2");
    t.is("(condition-case e (car 5) ((arith error) 1))", "1");
    t.is("(condition-case e (car 5) (((wrong-type)) 1) (5 2) (\"wrong-type\" 3) (nil 4) (t 5) (error 6))", "6");
    t.is("(condition-case e (signal nil 1) (nil e))", "(nil . 1)");
    t.is("(condition-case e (signal 'mine '(1 2)) (mine e))", "(mine 1 2)");
    t.is("(condition-case e (error \"text\") (error e))", "(error . \"text\")");
    t.is("(condition-case e (signal 'mine nil) (mine e))", "(mine)");
    t.refuses("(condition-case e (car 5) (arith (insert ?x)))", "wrong-type: 5");
    t.refuses("(condition-case e (car 5))", "wrong-type: 5");
    t.refuses("(condition-case e (car 5) (error (car 6)) (wrong-type (insert ?x)))", "wrong-type: 6");
    t.is("(condition-case e (condition-case e (car 5) (error (car 6))) (error e))", "(wrong-type . 6)");
    t.is("(let ((e 1)) (list (condition-case e (car 5) (error e)) e))", "((wrong-type . 5) 1)");
    t.is("(condition-case e (car 5) (error (setq e 3) e))", "3");
    t.refuses("(condition-case e (car 5) (error 1)) e", "void-variable: e");
    t.is("(condition-case e (let ((a 1)) (car a)) (error (boundp 'a)))", "nil");
    t.is("(list 1 (condition-case e (list 2 (car 5)) (error 3)) 4)", "(1 3 4)");
  }

  /** In the list x, of up to 4096, as far as conses go. */
  private static void listOfConditions() {
    Talk t = new Talk();
    t.makeBig();
    t.does("(setcar (nthcdr 4095 big) 'error)");
    t.is("(eval (list 'condition-case nil '(car 5) (list big 7)))", "7");
    t.is("(eval (list 'condition-case nil '(car 5) (list (cdr big) 7)))", "7");
    t.refuses("(eval (list 'condition-case nil '(car 5) (list (cons 0 big) 7)))", "wrong-type: 5");
    t.is("(eval (list 'condition-case nil '(car 5) (list (cons 0 big) 7) '(error 8)))", "8");
    t.does("(setcar (nthcdr 4095 big) 'wrong-type)");
    t.is("(eval (list 'condition-case nil '(car 5) (list big 7)))", "7");
    t.refuses("(eval (list 'condition-case nil '(car 5) (list (cons 0 big) 7)))", "wrong-type: 5");
    t = Talk.after("(setq ring (list 'arith)) (setcdr ring ring)");
    t.is("(eval (list 'condition-case nil '(car 5) (list ring 7) '(error 8)))", "8");
    t.is("(condition-case nil (car 5) ((arith wrong-type . 5) 7))", "7");
  }

  private static Talk withClauses(String more) {
    Talk t = new Talk();
    t.does("(setq big '((arith 1))) (let ((n 0)) (while (< n 11) (setq n (+ n 1) big (append big big))))");
    t.does("(setq big (append big big)) (setq most " + more + ")");
    t.does("(setq f (list 'condition-case nil '(progn (setcdr (cdr (cdr f)) most) (car 5))))");
    return t;
  }

  /** The first that fits, of 4096 that are gone along; where there are more: error bad-form the form. */
  private static void manyClauses() {
    withClauses("big").fails("(eval f)", "wrong-type: 5");
    Talk t = withClauses("(cons '(arith 1) big)");
    t.fails("(eval f)", ("bad-form: (condition-case nil (progn (setcdr (cdr (cdr f)) most) (car 5))" + Talk.times(" (arith 1)", 20)).substring(0, 200));
    t = withClauses("big");
    t.does("(setcar (nthcdr 4095 big) '(error 7))");
    t.is("(eval f)", "7");
    t = withClauses("(cons '(arith 1) big)");
    t.does("(setcar (nthcdr 4095 big) '(error 7))");
    t.is("(condition-case e (eval f) (error (car e)))", "bad-form");
    t = withClauses("(cons '(arith 1) big)");
    t.does("(setcar (nthcdr 4094 big) '(error 7))");
    t.is("(eval f)", "7");
    t = withClauses("(cons '(arith 1) (cons '(error 1) 5))");
    t.is("(eval f)", "1");
    t = withClauses("(cons '(arith 1) 5)");
    t.fails("(eval f)", "wrong-type: 5");
    // An error in all that is none of e's.
    t = withClauses("(cons 5 '((error 1)))");
    t.fails("(eval f)", "bad-form: (condition-case nil (progn (setcdr (cdr (cdr f)) most) (car 5)) 5 (error 1))");
  }

  /** The others are evaluated in any case, behind it (but fuel); one of the others' own takes its place. */
  private static void unwindProtect() {
    Talk t = new Talk();
    t.is("(list (unwind-protect 1 2) (unwind-protect 1) (unwind-protect (insert ?a) (insert ?b) (insert ?c)) (region 1 (point-max)))", "(1 1 nil \"abc\")");
    t.fails("(unwind-protect (car 5) (insert ?d) (insert ?e))", "wrong-type: 5");
    Talk.same("by an error", t.text(0), "abcde");
    t.is("(catch 'a (unwind-protect (throw 'a 1) (insert ?f)))", "1");
    Talk.same("by a throw", t.text(0), "abcdef");
    t.fails("(unwind-protect (car 5) (insert ?g) (car 6) (insert ?h))", "wrong-type: 6");
    Talk.same("its own", t.text(0), "abcdefg");
    t.is("(catch 'a (catch 'b (unwind-protect (throw 'a 1) (throw 'b 2))) 3)", "3");
    t.is("(catch 'a (unwind-protect (car 5) (throw 'a 2)))", "2");
    t.is("(condition-case e (catch 'a (unwind-protect (throw 'a 1) (car 6))) (error e))", "(wrong-type . 6)");
    t.is("(condition-case e (unwind-protect (car 5) (setq seen (boundp 'e))) (error (list e seen)))", "((wrong-type . 5) nil)");
    t.is("(let ((x 1)) (condition-case e (unwind-protect (let ((x 2)) (car 5)) (setq seen x)) (error seen)))", "1");
    t.is("(catch 'a (unwind-protect (unwind-protect (throw 'a 1) (insert ?h)) (insert ?i)))", "1");
    Talk.same("the inner one first", t.text(0), "abcdefghi");
    // Whatever the others meet and handle themselves, it goes on as it was.
    t = new Talk();
    t.fails("(unwind-protect (signal 'mine 5) (condition-case nil (/ 1 0) (error 1)) (catch 'b (throw 'b 2)))", "mine: 5");
    t.is("(catch 'a (unwind-protect (throw 'a 1) (condition-case nil (car 6) (error 2)) (catch 'b (throw 'b 3)) (catch 'a (throw 'a 4))))", "1");
    t.is("(condition-case e (unwind-protect (error \"text\") (condition-case e (car 6) (error e))) (error e))", "(error . \"text\")");
    t.is("(unwind-protect 1 (condition-case nil (car 6) (error 2)) (catch 'a (throw 'a 3)))", "1");
  }

  /** Then the current buffer is what it was, and its point where it was, however it is left. */
  private static void saveExcursion() {
    for (String body : new String[] {"1", "(car 5)", "(throw 'a 1)", "(signal 'mine 1)"}) {
      Talk t = Talk.after("(insert \"abcdef\") (goto-char 3) (buffer \"o\")");
      t.does("(condition-case nil (catch 'a (save-excursion (goto-char 1) (set-buffer \"o\") (insert \"zz\") " + body + ")) (error 1))");
      Talk.same("current behind " + body, t.box.about(6), 0);
      Talk.same("point behind " + body, t.box.buffer(0, 0), 3);
      Talk.same("the other one's stays", t.box.buffer(1, 0), 3);
    }
    Talk t = Talk.after("(insert \"abcdef\") (goto-char 3)");
    t.fails("(save-excursion (goto-char 1) (set-buffer (buffer \"o\")) (car 5))", "wrong-type: 5");
    Talk.same("current", t.box.about(6), 0);
    Talk.same("point", t.box.buffer(0, 0), 3);
    t.is("(progn (save-excursion (goto-char 1) (insert \"xy\")) (point))", "5");
    t.is("(progn (save-excursion (insert \"here\")) (point))", "5");
    t.is("(progn (save-excursion (delete-region 4 7)) (point))", "4");
    t.is("(progn (save-excursion (delete-region 1 (point-max))) (point))", "1");
    t.is("(progn (save-excursion (undo)) (point))", "1");
    // An error or throw that is held within does not end it.
    t = Talk.after("(insert \"abcdef\") (buffer \"o\")");
    t.is("(progn (goto-char 2) (save-excursion (goto-char 1) (condition-case nil (list (car 5)) (error 1)) (catch 'a (list (throw 'a 1))) (goto-char 3)) (point))", "2");
    t.is("(save-excursion (goto-char 4) (condition-case nil (save-excursion (goto-char 5) (set-buffer \"o\") (list (car 5))) (error 1)) (list (point) (current-buffer)))", "(4 #buffer main)");
    t.is("(progn (goto-char 6) (save-excursion (set-buffer \"o\") (catch 'a (save-excursion (set-buffer \"main\") (goto-char 1) (list (throw 'a 1)))) (list (current-buffer))))", "(#buffer o)");
    Talk.same("the outer one puts main's point back", t.box.buffer(0, 0), 6);
    // The windows' places are others.
    t = Talk.after("(insert \"1\\n2\\n3\\n4\\n5\\n\") (goto-char 7) (set-window-start 5) (split-below) (other-window) (goto-char 9) (set-window-start 3) (other-window)");
    t.does("(save-excursion (goto-char 1) (save-excursion (goto-char 2) (insert ?x) (save-excursion (goto-char 3) (insert ?y))))");
    int[][] want = {{7, 9}, {5, 11}};
    for (int k = 0; k < 2; k++) {
      Talk.same("start of window " + k, t.box.window(k, 5), want[k][0]);
      Talk.same("point of window " + k, t.box.window(k, 6), want[k][1]);
    }
    // As many in each other as there are levels.
    t = new Talk(8, 40, 5000, 150);
    t.does("(insert \"abc\") (defun deep (n) (save-excursion (goto-char 1) (if (< 0 n) (deep (- n 1)) (insert \"x\"))))");
    t.does("(goto-char 3) (deep 36)");
    Talk.same("point", t.box.buffer(0, 0), 4);
    t.fails("(deep 90)", "depth");
    Talk.same("point", t.box.buffer(0, 0), 4);
  }

  /** What is altered in a form under way counts from there on. */
  private static void alteredForms() {
    Talk t = Talk.after("(defun run (form) (setq f form) (condition-case e (eval f) (error (if (eq (cdr e) f) (car e) e))))");
    // The cons that e stands in is the last: what stands behind it is gone.
    t.is("(run (list 'progn '(setcdr (cdr f) nil) 1))", "nil");
    t.is("(run (list 'progn '(setcdr (cdr f) 'none) 1))", "none");
    t.is("(run (list 'list '(car (setcdr (cdr f) '(8 9))) 1))", "(8 8 9)");
    // The e1 of if.
    t.is("(run (list 'if '(progn (setcdr (cdr f) 5) t) 1))", "bad-form");
    t.is("(run (list 'if '(progn (setcdr (cdr f) 5) nil) 1))", "bad-form");
    t.is("(run (list 'if '(progn (setcdr (cdr (cdr f)) nil) nil) 1 2))", "nil");
    t = Talk.after("(defun run (form) (setq f form) (condition-case e (eval f) (error (if (eq (cdr e) f) (car e) e))))");
    // setq: the y that it came to ahead of e; a pair that is half.
    t.is("(list (run (list 'setq 'a '(progn (setcar (cdr f) 'b) 1))) a (boundp 'b))", "(1 1 nil)");
    t.is("(list (run (list 'setq 'a '(progn (setcdr (cdr (cdr f)) '(b)) 2))) a (boundp 'b))", "(bad-form 2 nil)");
    t.is("(list (run (list 'setq 'a '(progn (setcdr (cdr (cdr f)) '(b 4)) 3))) a b)", "(4 3 4)");
    // while: its e each turn from the cons that stood behind while when the form was begun.
    t.is("(let ((n 0)) (run (list 'while '(< n 2) '(setq n (+ n 1)) '(setcdr f '(nil)))) n)", "2");
    t.is("(let ((n 0)) (run (list 'while '(< n 9) '(setq n (+ n 1)) '(if (= n 3) (setcar (cdr f) nil)))) n)", "3");
    t.is("(let ((n 0)) (run (list 'while '(< n 3) '(setcdr (cdr f) '((setq n (+ n 1)))))) n)", "3");
    t = Talk.after("(defun run (form) (setq f form) (condition-case e (eval f) (error (if (eq (cdr e) f) (car e) e))))");
    t.is("(run (list 'cond '((setcar (cdr (cdr f)) 5) 1) '(2)))", "1");
    t.is("(run (list 'cond '((progn (setcar (cdr (cdr f)) '(1 . 2)) nil)) '(2)))", "bad-form");
    t.is("(run (list 'cond '((progn (setcdr (cdr f) 5) nil)) '(2)))", "nil");
    t.is("(run (list 'condition-case nil '(progn (setcar (cdr (cdr (cdr f))) nil) (car 5)) '(error 1)))", "bad-form");
    t.is("(run (list 'condition-case nil '(progn (setcar (cdr (cdr (cdr f))) '(error . 1)) (car 5)) '(error 1)))", "bad-form");
    t.is("(run (list 'condition-case nil '(progn (setcar (cdr (cdr (cdr (cdr f)))) nil) (car 5)) '(error 1) '(error 2)))", "1");
    t.is("(run (list 'defvar 'newly '(progn (setcar (cdr f) 'b) (setcdr (cdr f) nil) 6)))", "newly");
    t.is("newly", "6");
  }

  /** Let ahead of the 21st has bad-form. */
  private static void alteredLets() {
    for (String let : new String[] {"let", "let*"}) {
      Talk t = Talk.after("(defun run (form) (setq f form n 0) (condition-case e (eval f) (error (if (eq (cdr e) f) (car e) e))))",
          "(defun more (k) (let ((l nil)) (while (< 0 k) (setq l (cons 'b l) k (- k 1))) l))");
      t.is("(run (list '" + let + " (list '(a (progn (setcdr (car (cdr f)) (more 19)) 5))) 'a))", "5");
      t.is("(run (list '" + let + " (list '(a (progn (setcdr (car (cdr f)) (more 20)) 5))) 'a))", "bad-form");
      t.is("(run (list '" + let + " (list '(a (progn (setcdr (car (cdr f)) (append (more 19) 7)) 5))) 'a))", "5");
      t.is("(run (list '" + let + " (list '(a (progn (setcdr (car (cdr f)) (append (more 18) '(7))) 5))) 'a))", "bad-form");
      t.is("(run (list '" + let + " (list '(a (setq n (+ n 1))) '(b (setcdr (cdr (car (cdr f))) (car (cdr f))))) 1))", "bad-form");
      t.is("(list n (boundp 'a) (boundp 'b))", "(10 nil nil)");
    }
  }
}
