/** PRIMITIVES on values: what is empty, the first and the last, beyond, and what is refused. */
public final class EdgePrimitiveTest {
  public static void main(String[] args) {
    carsAndCdrs();
    nth();
    nthOfManyCdrs();
    lengths();
    copies();
    searches();
    mapcar();
    tests();
    divisions();
    shifts();
    symbols();
    calls();
    substrings();
    signs();
    numbersOfStrings();
    comparedStrings();
    printed();
    twoHundredPrinted();
    Talk.end();
  }

  private static void carsAndCdrs() {
    Talk t = new Talk();
    t.is("(list (car nil) (cdr nil) (car '(1)) (cdr '(1)) (car '(1 . 2)) (cdr '(1 . 2)))", "(nil nil 1 nil 1 2)");
    t.refuses("(setcar nil 1)", "wrong-type");
    t.refuses("(setcdr nil 1)", "wrong-type");
    t.is("(let ((c (cons 1 2))) (list (setcar c nil) (setcdr c 'x) c))", "(nil x (nil . x))");
  }

  /** i below 0 is 0; NIL beyond; wrong-type the first one on the way whose cdr (or, at last, car) is wanted and that is no list. */
  private static void nth() {
    Talk t = new Talk();
    t.is("(list (nth -1 '(a b)) (nth 0 '(a b)) (nth 1 '(a b)) (nth 2 '(a b)) (nth 3 '(a b)) (nth 0 nil) (nth -134217728 '(a)))", "(a a b nil nil nil a)");
    t.is("(list (nthcdr -1 '(a b)) (nthcdr 0 '(a b)) (nthcdr 1 '(a b)) (nthcdr 2 '(a b)) (nthcdr 3 '(a b)) (nthcdr 9 nil))", "((a b) (a b) (b) nil nil nil)");
    t.is("(list (nth 0 '(a . b)) (nthcdr 1 '(a . b)) (nthcdr 2 '(a b . c)))", "(a b c)");
    t.refuses("(nth 1 '(a . b))", "wrong-type: b");
    t.refuses("(nth 2 '(a . b))", "wrong-type: b");
    t.refuses("(nthcdr 2 '(a . b))", "wrong-type: b");
    t.refuses("(nthcdr 3 '(a b . 5))", "wrong-type: 5");
    t.refuses("(nth 2 '(a b . \"x\"))", "wrong-type: \"x\"");
    t.refuses("(nth 0 5)", "wrong-type: 5");
    t.refuses("(nthcdr 0 5)", "wrong-type: 5");
    t.refuses("(nthcdr -1 'a)", "wrong-type: a");
  }

  /** i above 4096 is that. */
  private static void nthOfManyCdrs() {
    Talk t = new Talk();
    t.makeBig();
    t.does("(setcar (nthcdr 4094 big) 'b) (setcar (nthcdr 4095 big) 'c) (setq more (cons 'a big))");
    t.is("(list (nth 4094 big) (nth 4095 big) (nth 4096 big) (nth 4097 big))", "(b c nil nil)");
    t.is("(list (nth 4095 more) (nth 4096 more) (nth 4097 more) (nth 134217727 more))", "(b c c c)");
    t.is("(list (nthcdr 4095 more) (nthcdr 4096 more) (nthcdr 4097 more) (nthcdr 5000 more))", "((b c) (c) (c) (c))");
    t.does("(setcdr (nthcdr 4095 big) 'end)");
    t.is("(list (nthcdr 4096 big) (nthcdr 4097 big) (nth 4096 more) (nth 9999 more))", "(end end c c)");
    t.refuses("(nth 4096 big)", "wrong-type: end");
    t.refuses("(nth 9999 big)", "wrong-type: end");
    t.is("(nthcdr 9999 more)", "(c . end)");
    t = Talk.after("(setq ring (list 0 1 2 3 4)) (setcdr (nthcdr 4 ring) ring)");
    t.is("(list (nth 4095 ring) (nth 4096 ring) (nth 4097 ring) (nth 4098 ring))", "(0 1 1 1)");
  }

  private static void lengths() {
    Talk t = new Talk();
    t.is("(list (length nil) (length '(1)) (length \"\") (length \"a\") (length '(nil nil)))", "(0 1 0 1 2)");
    t.refuses("(length '(1 2 . 3))", "wrong-type: (1 2 . 3)");
  }

  private static void copies() {
    Talk t = new Talk();
    t.is("(list (reverse nil) (reverse '(1)) (reverse '(1 (2 3) 4)))", "(nil (1) (4 (2 3) 1))");
    t.is("(list (append nil nil) (append nil 5) (append '(1) nil) (append '(1) 2) (append '(1 2) '(3)))", "(nil 5 (1) (1 . 2) (1 2 3))");
    t.is("(let ((l '(1 2)) (m '(3))) (list (eq (append l nil) l) (eq (nthcdr 2 (append l m)) m) (eq (append nil m) m) (eq (reverse l) l)))", "(nil t t nil)");
    t.refuses("(append '(1 . 2) nil)", "wrong-type: (1 . 2)");
    t.is("(let ((l (list 1 2 3))) (list (reverse l) l))", "((3 2 1) (1 2 3))");
  }

  /** From where it is on, or NIL; the first element, a cons, whose car is, or NIL. */
  private static void searches() {
    Talk t = new Talk();
    t.is("(list (memq 1 nil) (memq 1 '(1)) (memq 2 '(1 2 3)) (memq 3 '(1 2 3)) (memq 4 '(1 2 3)) (memq nil '(1 nil 2)))", "(nil (1) (2 3) (3) nil (nil 2))");
    t.is("(list (memq \"a\" '(\"a\")) (member \"a\" '(\"b\" \"a\" \"a\")) (member '(1) '(1 (1))) (member nil nil))", "(nil (\"a\" \"a\") ((1)) nil)");
    t.is("(list (assq 1 nil) (assq 1 '(1 (1 . a) (1 . b))) (assq nil '(nil (nil . x))) (assq 2 '((1 . 2))))", "(nil (1 . a) (nil . x) nil)");
    t.is("(list (assoc \"a\" '((\"b\") \"a\" (\"a\" . 1))) (assoc '(1) '(((1) . 2))) (assq '(1) '(((1) . 2))) (assoc nil '(nil)))", "((\"a\" . 1) ((1) . 2) nil nil)");
  }

  /** The list of what v answers; l as it was at first. */
  private static void mapcar() {
    Talk t = new Talk();
    t.is("(list (mapcar 'car nil) (mapcar 'nosuch nil) (mapcar 5 nil) (mapcar 'null '(nil 1)))", "(nil nil nil (t nil))");
    t.refuses("(mapcar 5 '(1))", "void-function: 5");
    t.refuses("(mapcar 'if '(1))", "void-function: if");
    t.refuses("(mapcar 'car '((1) 2 (3)))", "wrong-type: 2");
    t.is("(let ((l (list 1 2 3))) (mapcar (lambda (x) (setcdr (cdr l) nil) (setcar (cdr l) 9) x) l))", "(1 2 3)");
    t.is("(let ((l (list 1 2))) (mapcar (lambda (x) (setcdr l l) x) l))", "(1 2)");
    t.fails("(mapcar (lambda (x) (insert x) (if (= x 98) (car 5))) '(97 98 99))", "wrong-type: 5");
    Talk.same("up to the error", t.text(0), "ab");
  }

  private static void tests() {
    Talk t = new Talk();
    t.does("(setq all (list nil t 0 \"\" '(1) (marker 1) (current-buffer)))");
    t.is("(mapcar 'null all)", "(t nil nil nil nil nil nil)");
    t.is("(mapcar 'consp all)", "(nil nil nil nil t nil nil)");
    t.is("(mapcar 'symbolp all)", "(t t nil nil nil nil nil)");
    t.is("(mapcar 'intp all)", "(nil nil t nil nil nil nil)");
    t.is("(mapcar 'stringp all)", "(nil nil nil t nil nil nil)");
    t.is("(mapcar (lambda (x) (eq x x)) all)", "(t t t t t t t)");
    t.is("(list (eq \"\" \"\") (eq (marker 1) (marker 1)) (eq (buffer \"main\") (current-buffer)) (eq 'a 'a) (eq '() nil))", "(nil nil t t t)");
  }

  /** Cut towards 0; error arith NIL by 0. */
  private static void divisions() {
    Talk t = new Talk();
    t.is("(list (/ 7 2) (/ -7 2) (/ 7 -2) (/ -7 -2) (/ 1 2) (/ -1 2) (/ 0 5))", "(3 -3 -3 3 0 0 0)");
    t.is("(list (% 7 2) (% -7 2) (% 7 -2) (% -7 -2) (% 1 2) (% 4 2) (% 0 5))", "(1 -1 1 -1 1 0 0)");
    t.refuses("(/ 5 0)", "arith");
    t.refuses("(/ 0 0)", "arith");
    t.refuses("(% 5 0)", "arith");
    t.refuses("(/ 5 268435456)", "arith");
    t.is("(condition-case e (/ 1 0) (arith e))", "(arith)");
    t.is("(list (< 1 1) (< 1 2) (< 2 1) (> 1 1) (> 2 1) (> 1 2) (= 1 1) (= 1 2) (< -134217728 134217727) (> -134217728 134217727))",
        "(nil t nil nil t nil t nil t nil)");
    t.is("(list (+ 5) (* 5) (- 5) (- -5) (- 0) (- 5 5) (- 5 1 1) (* 2 3 -1))", "(5 5 -5 5 0 0 3 -6)");
  }

  /** By more than 27, up or down, as by 27. */
  private static void shifts() {
    Talk t = new Talk();
    t.is("(list (shift 5 1) (shift 5 -1) (shift -5 -1) (shift 5 0) (shift 0 9))", "(10 2 -3 5 0)");
    t.is("(list (shift 1 26) (shift 1 27) (shift 1 28) (shift 1 32) (shift 1 33))", "(67108864 -134217728 -134217728 -134217728 -134217728)");
    t.is("(list (shift 67108864 -26) (shift 67108864 -27) (shift -134217728 -27) (shift -134217728 -28) (shift -134217728 -32) (shift 1 -33))", "(1 0 -1 -1 -1 0)");
    t.is("(list (shift 134217727 1) (shift -134217728 1) (shift -1 28))", "(-2 0 -134217728)");
  }

  private static void symbols() {
    Talk t = new Talk();
    t.is("(list (set 'a 1) (symbol-value 'a) (boundp 'a) (boundp 'b) (fset 'a 2) (symbol-function 'a))", "(1 1 t nil 2 2)");
    t.refuses("(symbol-value 'b)", "void-variable: b");
    t.is("(list (symbol-function 'b) (symbol-function 'if) (symbol-function 'car) (symbol-function nil) (symbol-function 'lambda))", "(nil nil car nil nil)");
    t.is("(list (symbol-name 'a) (symbol-name nil) (symbol-name (intern \"A b\")))", "(\"a\" \"nil\" \"A b\")");
    t.is("(list (eq (intern \"a\") 'a) (intern \"nil\") (intern \"t\") (intern \"5\") (intp (intern \"5\")))", "(t nil t 5 nil)");
    t.is("(list (fset 'car nil) (symbol-function 'car) (fset 'car 'car) (car '(1)))", "(nil nil car 1)");
    t.is("(let ((c 1)) (list (set 'c 2) c (boundp 'c)))", "(2 2 t)");
  }

  private static void calls() {
    Talk t = new Talk();
    t.is("(list (funcall 'list) (funcall 'list 1 2) (funcall (lambda ()) ) (apply 'list nil) (apply 'list '(1)) (eval nil) (eval ''a))", "(nil (1 2) nil nil (1) nil a)");
    for (String v : new String[] {"nosuch", "if", "5", "\"car\"", "(car)", "(macro lambda nil)"}) {
      t.refuses("(funcall '" + v + ")", "void-function: " + v);
      t.refuses("(apply '" + v + " nil)", "void-function: " + v);
    }
    t.refuses("(funcall nil)", "void-function");
    t.refuses("(signal 'mine 5)", "mine: 5");
    t.refuses("(signal nil 5)", "nil: 5");
    t.refuses("(signal 'mine nil)", "mine");
    t.refuses("(error \"\")", "");
    t.refuses("(error \"text\")", "text");
    t.refuses("(signal 'error nil)", "error");
    t.refuses("(signal 'error 'text)", "error: text");
    t.refuses("(signal 'error \"te\\\"xt\")", "te\"xt");
    t.refuses("(signal 'errors \"te\\\"xt\")", "errors: \"te\\\"xt\"");
  }

  /** From, to, 0 .. its length: out-of-range the first that is not, the second also if it is below the first. */
  private static void substrings() {
    Talk t = new Talk();
    t.is("(list (substring \"abc\" 0 0) (substring \"abc\" 0 3) (substring \"abc\" 3 3) (substring \"abc\" 1 2) (substring \"abc\" 2 3) (substring \"\" 0 0))",
        "(\"\" \"abc\" \"\" \"b\" \"c\" \"\")");
    t.refuses("(substring \"abc\" -1 2)", "out-of-range: -1");
    t.refuses("(substring \"abc\" 4 4)", "out-of-range: 4");
    t.refuses("(substring \"abc\" 0 4)", "out-of-range: 4");
    t.refuses("(substring \"abc\" 0 -1)", "out-of-range: -1");
    t.refuses("(substring \"abc\" 2 1)", "out-of-range: 1");
    t.refuses("(substring \"abc\" -1 9)", "out-of-range: -1");
    t.refuses("(substring \"abc\" 4 9)", "out-of-range: 4");
    t.refuses("(substring \"\" 0 1)", "out-of-range: 1");
    t.refuses("(substring \"\" 1 1)", "out-of-range: 1");
    t.refuses("(substring \"abc\" -134217728 134217727)", "out-of-range: -134217728");
  }

  /** Its i-th sign, from 0 on; of one sign 0 .. 127. */
  private static void signs() {
    Talk t = new Talk();
    t.is("(list (sign \"abc\" 0) (sign \"abc\" 2) (sign \"12345678\" 7) (sign \"123456789\" 8))", "(97 99 56 57)");
    t.refuses("(sign \"abc\" 3)", "out-of-range: 3");
    t.refuses("(sign \"abc\" -1)", "out-of-range: -1");
    t.refuses("(sign \"\" 0)", "out-of-range: 0");
    t.refuses("(sign \"abc\" 134217727)", "out-of-range: 134217727");
    t.is("(list (sign (string 0) 0) (sign (string 127) 0) (length (string 0)) (string 65))", "(0 127 1 \"A\")");
    t.refuses("(string 128)", "out-of-range: 128");
    t.refuses("(string -1)", "out-of-range: -1");
    t.is("(let ((s \"\") (n 0)) (while (< n 128) (setq s (concat s (string n)) n (+ n 1))) (list (length s) (sign s 0) (sign s 64) (sign s 127)))", "(128 0 64 127)");
  }

  /** The INT, if it is digits alone, with or without a - before them; else 0. */
  private static void numbersOfStrings() {
    Talk t = new Talk();
    t.is("(mapcar 'number '(\"0\" \"7\" \"007\" \"-7\" \"-0\" \"12345\"))", "(0 7 7 -7 0 12345)");
    t.is("(mapcar 'number '(\"\" \"-\" \"--7\" \"7-\" \"+7\" \" 7\" \"7 \" \"7a\" \"a7\" \"1.5\" \"/\" \":\"))", "(0 0 0 0 0 0 0 0 0 0 0 0)");
  }

  private static void comparedStrings() {
    Talk t = new Talk();
    t.is("(list (string= \"\" \"\") (string= \"a\" \"\") (string= \"ab\" \"ab\") (string= \"ab\" \"aB\") (string= \"ab\" \"abc\") (string= \"12345678a\" \"12345678b\"))",
        "(t nil t nil nil nil)");
    t.is("(list (string< \"\" \"\") (string< \"\" \"a\") (string< \"a\" \"\") (string< \"a\" \"a\") (string< \"a\" \"b\") (string< \"b\" \"a\") (string< \"ab\" \"b\") (string< \"a\" \"ab\") (string< \"B\" \"a\"))",
        "(nil t nil nil t nil t t t)");
    t.is("(list (concat \"\" \"\") (concat \"a\" \"\" \"b\") (concat \"12345678\" \"9\"))", "(\"\" \"ab\" \"123456789\")");
  }

  private static void printed() {
    Talk t = new Talk();
    t.is("(list -134217728 134217727 0 -1 10 99 100)", "(-134217728 134217727 0 -1 10 99 100)");
    t.is("'(nil t a . b)", "(nil t a . b)");
    t.is("'((1 . 2) (3 . (4 . (5))) () (()))", "((1 . 2) (3 4 5) nil (nil))");
    t.is("(list \"\" \"a\\\\b\\\"c\" \"\n\")", "(\"\" \"a\\\\b\\\"c\" \"\n\")");
    t.is("(list (marker 1) (buffer \"a b\") (current-buffer))", "(#marker #buffer a b #buffer main)");
    t.is("''a", "'a");
    t.is("'('a '(b) ''c 'nil)", "('a '(b) ''c 'nil)");
    t.is("'((quote) (quote a b) (quote . a) (quote a . b) (a . (quote b)) (quote nil))", "((quote) (quote a b) (quote . a) (quote a . b) (a quote b) 'nil)");
    t.is("(print \"a\")", "\"\\\"a\\\"\"");
  }

  /** Of more than 200 signs the first 200. */
  private static void twoHundredPrinted() {
    for (int n : new int[] {197, 198, 199, 200, 500}) {
      Talk t = new Talk();
      t.does("(setq s \"" + Talk.times("x", n) + "\") (setq p (print s))");
      t.is("(length p)", "" + Math.min(200, n + 2));
      t.is("(sign p (- (length p) 1))", "" + (int) (n <= 198 ? '"' : 'x'));
    }
    Talk t = new Talk();
    t.is("(length (print '(" + Talk.times("a ", 99) + ")))", "199");
    t.is("(length (print '(" + Talk.times("a ", 99) + ". b)))", "200");
    t.is("(length (print '(1" + Talk.times(" a", 99) + ")))", "200");
    t = new Talk();
    t.is("(length (print '(12" + Talk.times(" a", 98) + ")))", "200");
    t.is("(substring (print '(12" + Talk.times(" a", 98) + ")) 198 200)", "\"a)\"");
    t.is("(substring (print '(123" + Talk.times(" a", 98) + ")) 198 200)", "\" a\"");
    t.is("(length (print (list (buffer \"abcdefghijklmnopqrstuvwx\")" + Talk.times(" 'a", 90) + ")))", "200");
    t = Talk.after("(setq c (list 1)) (setcar c c) (setq d (list 1)) (setcdr d d) (setq e (list 'quote 1)) (setcar (cdr e) e)");
    t.is("c", Talk.times("(", 200));
    t.is("d", ("(" + Talk.times("1 ", 100)).substring(0, 200));
    t.is("e", Talk.times("'", 200));
    t.is("(list (length (print c)) (length (print d)) (length (print e)))", "(200 200 200)");
  }
}
