/** Terms, VALUES: the edges of INTs, symbols, strings, lists and EQUAL. */
public final class EdgeValueTest {
  private static final String NAME_24 = "abcdefghijklmnopqrstuvwx";

  public static void main(String[] args) {
    readInts();
    reckonedInts();
    names();
    toldNames();
    fourHundredSymbols();
    constants();
    strings();
    properLists();
    properPlaces();
    equalPairs();
    equalCarsFirst();
    equalForEachElement();
    Talk.end();
  }

  /** An INT, 28 bits, -134217728 .. 134217727, wrapped digit by digit. */
  private static void readInts() {
    Talk t = new Talk();
    t.is("'(134217726 134217727 134217728 134217729)", "(134217726 134217727 -134217728 -134217727)");
    t.is("'(-134217727 -134217728 -134217729 -134217730)", "(-134217727 -134217728 134217727 134217726)");
    t.is("'(268435455 268435456 268435457 -268435456 0 -0 00)", "(-1 0 1 0 0 0 0)");
    t.is("'(4294967295 4294967296 99999999999999999999999999999)", "(-1 0 " + wrapped("99999999999999999999999999999") + ")");
    t.is("(list (number \"134217727\") (number \"134217728\") (number \"-134217728\") (number \"-134217729\"))",
        "(134217727 -134217728 -134217728 134217727)");
    t.is("(list (number \"" + Talk.times("7", 500) + "\"))", "(" + wrapped(Talk.times("7", 500)) + ")");
  }

  private static int wrapped(String digits) {
    int n = 0;
    for (int i = 0; i < digits.length(); i++) {
      n = (n * 10 + digits.charAt(i) - '0') << 4 >> 4;
    }
    return n;
  }

  /** Whatever is reckoned is wrapped into that. */
  private static void reckonedInts() {
    Talk t = new Talk();
    t.is("(list (+ 134217727 0) (+ 134217727 1) (+ 134217727 134217727) (+ -134217728 -1) (+ -134217728 -134217728))",
        "(134217727 -134217728 -2 134217727 0)");
    t.is("(list (- -134217727) (- -134217728) (- -134217728 1) (- 134217727 -1) (- 0 -134217728) (- 0 134217727 2))",
        "(134217727 -134217728 134217727 -134217728 -134217728 134217727)");
    t.is("(list (* 16384 8191) (* 16384 8192) (* 16384 16384) (* -16384 8192) (* 134217727 134217727) (* -134217728 -1))",
        "(134201344 -134217728 0 -134217728 1 -134217728)");
    t.is("(list (/ -134217728 -1) (% -134217728 -1) (/ -134217728 1) (/ 134217727 -1))", "(-134217728 0 -134217728 -134217727)");
    t.is("(list (= 134217728 -134217728) (< 134217727 134217728) (> -134217729 0) (eq 268435457 1))", "(t nil t t)");
    t.is("(list (logand -134217728 134217727) (logior -134217728 134217727) (logand -1 -134217728))", "(0 -1 -134217728)");
    t.is("(list (shift 1 26) (shift 1 27) (shift 1 28) (shift 3 27) (shift 2 27) (shift -1 27) (shift 1 134217727))",
        "(67108864 -134217728 -134217728 -134217728 0 -134217728 -134217728)");
    t.is("(list (shift -134217728 -26) (shift -134217728 -27) (shift -134217728 -28) (shift -134217728 -134217728))", "(-2 -1 -1 -1)");
    t.is("(list (shift 134217727 -26) (shift 134217727 -27) (shift 134217727 -28) (shift -3 -1) (shift 7 0))", "(1 0 0 -2 7)");
  }

  /** A name of 1 to 24 signs. */
  private static void names() {
    Talk t = new Talk();
    t.is("(list 'a '" + NAME_24 + ")", "(a " + NAME_24 + ")");
    t.is("(length (symbol-name '" + NAME_24 + "))", "24");
    t.is("(eq (intern \"" + NAME_24 + "\") '" + NAME_24 + ")", "t");
    Talk.same("symbols", t.box.about(3), 2);
    t.refuses("'" + NAME_24 + "y", "read-error");
    t.refuses("(intern \"" + NAME_24 + "y\")", "out-of-range: \"" + NAME_24 + "y\"");
    t.refuses("(intern \"\")", "out-of-range: \"\"");
    Talk.same("no symbol more", t.box.about(3), 2);
    t.is("(list (intern \"z\") (symbol-name (intern \" (;\")))", "(z \" (;\")");
    Talk.same("two more", t.box.about(3), 4);
  }

  /** Beside the names told here. */
  private static void toldNames() {
    Talk t = new Talk();
    StringBuilder all = new StringBuilder();
    for (int i = 0; i < Names.TOLD.length; i++) {
      all.append(' ').append(Names.TOLD[i]);
    }
    t.does("'(" + all + ")");
    Talk.same("told names are none", t.box.about(3), 0);
    Talk.same("so many cells", t.box.about(2), Names.TOLD.length + 2);
    t.does("(intern \"car\") (intern \"nil\") (intern \"heap-full\")");
    Talk.same("nor if they are made", t.box.about(3), 0);
  }

  private static Talk with399() {
    Talk t = new Talk();
    for (int from = 0; from < 399; from += 57) {
      StringBuilder many = new StringBuilder("'(");
      for (int k = from; k < from + 57; k++) {
        many.append(" s").append(k);
      }
      t.does(many.append(")").toString());
    }
    Talk.same("symbols", t.box.about(3), 399);
    return t;
  }

  /** At most 400, each there for good from the first time it is read or made. */
  private static void fourHundredSymbols() {
    Talk t = with399();
    t.does("(setq the-last 1)");
    Talk.same("the 400th by reading", t.box.about(3), 400);
    t.refuses("(setq one-more 1)", "too-many-symbols");
    Talk.same("no cell was made for it", t.box.about(2), 0);
    t.refuses("(intern \"one-more\")", "too-many-symbols");
    t.refuses("one-more", "too-many-symbols");
    Talk.same("stays", t.box.about(3), 400);
    t.is("(list (intern \"s0\") 's398 the-last 'car)", "(s0 s398 1 car)");
    t.fails("(intern \"\")", "out-of-range: \"\"");
    t.fails("'" + NAME_24 + "y", "read-error");
    t = with399();
    t.does("(intern \"the-last\")");
    Talk.same("the 400th by intern", t.box.about(3), 400);
    t.refuses("(intern \"one-more\")", "too-many-symbols");
    t.refuses("'(s1 one-more)", "too-many-symbols");
    t = with399();
    t.fails("(the-last one-more", "too-many-symbols");
    Talk.same("what was read before is there", t.box.about(3), 400);
    t.is("(condition-case nil (intern \"one-more\") (too-many-symbols 7))", "7");
  }

  /** NIL and T are symbols whose values are themselves and can't be changed. */
  private static void constants() {
    String[][] cases = {{"(setq nil 1)", ""}, {"(setq t 1)", "t"}, {"(set nil 1)", ""}, {"(set 't 1)", "t"}, {"(let ((nil 1)) 1)", ""},
        {"(let (t) 1)", "t"}, {"(let* ((t 1)) 1)", "t"}, {"(let* (nil) 1)", ""}, {"(fset nil 'car)", ""}, {"(fset t 'car)", "t"},
        {"(defun nil () 1)", ""}, {"(defun t () 1)", "t"}, {"(defmacro nil () 1)", ""}, {"(defmacro t () 1)", "t"},
        {"(condition-case t (car 5) (error 1))", "t"}};
    for (String[] pair : cases) {
      Talk t = new Talk();
      t.refuses(pair[0], "constant" + (pair[1].isEmpty() ? "" : ": " + pair[1]));
      t.is("(list nil t (symbol-value nil) (symbol-value t) (symbol-function nil) (symbol-function t))", "(nil t nil t nil nil)");
    }
    new Talk().is("(list (setq x nil) (setq x t) (defvar t 1) (defvar nil 1))", "(nil t t nil)");
  }

  /** A string: 0 to 2000 signs. */
  private static void strings() {
    for (int n : new int[] {0, 1, 1999, 2000}) {
      new Talk().is("(length \"" + Talk.times("x", n) + "\")", "" + n);
    }
    new Talk().is("(length \"" + Talk.times("\\n", 2000) + "\")", "2000");
    new Talk().refuses("(setq s \"" + Talk.times("x", 2001) + "\")", "too-long");
    new Talk().refuses("(setq s \"" + Talk.times("\\n", 2001) + "\")", "too-long");
    Talk t = Talk.after("(setq s \"0123456789\") (setq s (concat s s s s s)) (setq s (concat s s s s)) (setq s (concat s s s s s))");
    t.is("(list (length s) (length (concat s s)) (length (concat s s \"\")) (length (concat s (substring s 1 1000) \"z\")))", "(1000 2000 2000 2000)");
    t.refuses("(concat s s \"z\")", "too-long");
    t.refuses("(concat s \"z\" s)", "too-long");
    t.refuses("(concat s s s s s s s s s s s s s s s s s s)", "too-long");
    t.is("(condition-case e (concat s s s) (too-long e))", "(too-long)");
  }

  /** A list is PROPER if one comes to NIL by at most 4096 cdrs. */
  private static void properLists() {
    Talk t = new Talk();
    t.makeBig();
    t.does("(setq more (cons 0 big))");
    String printed = ("wrong-type: (" + Talk.times("0 ", 200)).substring(0, 200);
    t.is("(length big)", "4096");
    t.is("(list (length (cdr big)) (memq 1 big) (member 1 big) (assq 1 big) (assoc 1 big) (apply '+ big))", "(4095 nil nil nil nil 0)");
    for (String code : new String[] {"(length more)", "(memq 0 more)", "(member 0 more)", "(assq 0 more)", "(assoc 0 more)", "(apply '+ more)",
        "(reverse more)", "(append more nil)", "(mapcar 'nosuch more)"}) {
      t.refuses(code, printed);
    }
    t.fails("(reverse big)", "heap-full");
    t.fails("(append big nil)", "heap-full");
    t.fails("(mapcar 'nosuch big)", "void-function: nosuch");
    t.is("(list (nth 4096 more) (nthcdr 4097 more) (car more) (consp (append nil more)))", "(0 (0) 0 t)");
    t = new Talk();
    t.refuses("(length '(1 . 2))", "wrong-type: (1 . 2)");
    t.does("(setq ring (list 1)) (setcdr ring ring)");
    t.refuses("(length ring)", ("wrong-type: (" + Talk.times("1 ", 200)).substring(0, 200));
  }

  /** The same edge where forms, clauses, lambda lists and maps are to be proper. */
  private static void properPlaces() {
    Talk t = new Talk();
    t.makeBig();
    t.does("(setcar big '+)");
    t.is("(eval big)", "0");
    t.does("(setcar big 0) (setq more (cons '+ big))");
    t.fails("(eval more)", ("bad-form: (+" + Talk.times(" 0", 200)).substring(0, 200));
    t.is("(eval (list 'cond big))", "0");
    t.fails("(eval (list 'cond more))", ("bad-form: (cond (+" + Talk.times(" 0", 200)).substring(0, 200));
    t.fails("(eval (list 'condition-case nil 5 more))", ("bad-form: (condition-case nil 5 (+" + Talk.times(" 0", 200)).substring(0, 200));
    t.is("(eval (list 'condition-case nil 5 big))", "5");
    t.does("(setq more (cons 'lambda (cons nil (cdr (cdr big)))))");
    t.is("(funcall more)", "0");
    t.does("(setq more (cons 'lambda (cons nil (cdr big))))");
    t.fails("(funcall more)", ("bad-form: (lambda nil" + Talk.times(" 0", 200)).substring(0, 200));
    t.does("(setcar big 'keymap)");
    t.is("(list (eq (use-map big) big) (lookup-key big \"a\"))", "(t nil)");
    t.does("(setcar big '(97 . here)) (setq more (cons 'keymap big))");
    t.is("(lookup-key more \"a\")", "nil");
    t.refuses("(use-map more)", ("wrong-type: (keymap (97 . here)" + Talk.times(" 0", 200)).substring(0, 200));
    t.refuses("(define-key more \"a\" 1)", ("wrong-type: (keymap (97 . here)" + Talk.times(" 0", 200)).substring(0, 200));
    t.does("(setcdr more (cdr big)) (setcar (cdr big) '(97 . there))");
    t.is("(lookup-key more \"a\")", "there");
  }

  /** Where more than 4096 pairs of conses would be compared: error circular NIL. */
  private static void equalPairs() {
    Talk t = Talk.after("(setq l '(0)) (let ((n 0)) (while (< n 11) (setq n (+ n 1) l (append l l))))", "(setq x (append l nil))");
    // 1 + 2048 + 2047 pairs, and one more.
    t.is("(equal (cons l (cdr l)) (cons x (cdr x)))", "t");
    t.refuses("(equal (cons l l) (cons x x))", "circular");
    t.is("(equal (cons (cdr l) l) (cons (cdr x) x))", "t");
    t.is("(equal (cons l (cons 1 (cdr (cdr l)))) (cons x (cons 1 (cdr (cdr x)))))", "t");
    t.refuses("(equal (cons l (cons 1 (cdr l))) (cons x (cons 1 (cdr x))))", "circular");
    t.is("(condition-case e (equal (cons l l) (cons x x)) (circular e))", "(circular)");
    // Ahead of the pair too many there is a difference.
    t.does("(setcar (nthcdr 2047 x) 1)");
    t.is("(equal (cons l l) (cons x x))", "nil");
    t.does("(setq a (list 1) b (list 1)) (setcdr a a) (setcdr b b)");
    t.refuses("(equal a b)", "circular");
    t.is("(list (equal a a) (equal (list a) (list a)))", "(t t)");
    t.does("(setq a (list 1) b (list 1)) (setcar a a) (setcar b b)");
    t.refuses("(equal a b)", "circular");
    t.does("(setcdr a a) (setcdr b b)");
    t.refuses("(equal a b)", "circular");
    t.refuses("(member a (list b))", "circular");
  }

  /** Cars first, up to the first difference. */
  private static void equalCarsFirst() {
    Talk t = Talk.after("(setq a (list 1) b (list 1)) (setcdr a a) (setcdr b b)");
    t.is("(equal (cons 1 a) (cons 2 b))", "nil");
    t.refuses("(equal (cons a 1) (cons b 2))", "circular");
    t.is("(equal (cons (cons 1 a) a) (cons (cons 2 b) b))", "nil");
    t.is("(equal '((1 . 2) . 3) '((1 . 2) . 3))", "t");
    t.is("(mapcar (lambda (x) (list (equal x \"\") (equal \"\" x))) (list 0 nil 'a '(1) \"a\" (marker 1) (current-buffer) \"\"))",
        "((nil nil) (nil nil) (nil nil) (nil nil) (nil nil) (nil nil) (nil nil) (t t))");
    t.is("(list (equal '(1 . \"a\") '(1 . \"a\")) (equal '(\"a\" . 1) '(\"b\" . 1)) (equal '(1 . 2) '(1 . 3)) (equal '(1) '(1 nil)))", "(t nil nil nil)");
  }

  /** member and assoc make one comparison for each element. */
  private static void equalForEachElement() {
    Talk t = Talk.after("(setq l '(0)) (let ((n 0)) (while (< n 11) (setq n (+ n 1) l (append l l))))", "(setq x (append l '(1)))");
    // 2048 pairs for each of the four.
    t.is("(length (member l (list x x x x l)))", "1");
    t.is("(assoc l (list (list x) (list x) (list x) (cons l 7)))", ("((" + Talk.times("0 ", 200)).substring(0, 200));
    t.is("(member l (list x x x x))", "nil");
    t.does("(setq a (list 1) b (list 1)) (setcdr a a) (setcdr b b)");
    t.refuses("(member a (list 5 b))", "circular");
    t.refuses("(assoc a (list b (list b)))", "circular");
    t.is("(length (member a (list 5 a b)))", "2");
    t.is("(consp (assoc a (list b (list a) (list b))))", "t");
  }
}
