/** Promise 4: the primitives on values. */
public final class PrimitiveTest {
  public static void main(String[] args) {
    arguments();
    lists();
    equality();
    numbers();
    symbols();
    strings();
    printing();
    Talk.end();
  }

  private static void arguments() {
    Talk t = new Talk();
    String[] none = {"current-buffer", "point", "point-max", "bolp", "eolp", "beginning-of-line", "end-of-line", "column", "line", "undo",
        "boundary", "modified", "make-map", "split-below", "split-right", "other-window", "delete-window", "delete-other-windows", "window-start"};
    for (String word : none) {
      t.fails("(" + word + " 1)", "wrong-number-of-args: " + word);
    }
    String[] one = {"car", "cdr", "length", "reverse", "null", "consp", "symbolp", "intp", "stringp", "symbol-value", "boundp", "symbol-function",
        "symbol-name", "intern", "eval", "error", "string", "number", "print", "buffer", "set-buffer", "buffer-name", "goto-char", "skip-forward",
        "marker", "marker-place", "face", "set-modified", "use-map", "show-buffer", "set-window-start", "message"};
    for (String word : one) {
      t.fails("(" + word + ")", "wrong-number-of-args: " + word);
      t.fails("(" + word + " 1 2)", "wrong-number-of-args: " + word);
    }
    t = new Talk();
    String[] two = {"cons", "setcar", "setcdr", "nth", "nthcdr", "append", "memq", "member", "assq", "assoc", "mapcar", "eq", "equal", "/", "%", "<",
        ">", "=", "logand", "logior", "shift", "set", "fset", "apply", "throw", "signal", "string=", "string<", "sign", "delete-region", "region",
        "set-marker", "marker-moves", "lookup-key"};
    for (String word : two) {
      t.fails("(" + word + " 1)", "wrong-number-of-args: " + word);
      t.fails("(" + word + " 1 2 3)", "wrong-number-of-args: " + word);
    }
    t = new Talk();
    for (String word : new String[] {"substring", "put-face", "define-key"}) {
      t.fails("(" + word + " 1 2)", "wrong-number-of-args: " + word);
      t.fails("(" + word + " 1 2 3 4)", "wrong-number-of-args: " + word);
    }
    for (String word : new String[] {"char-after", "char-before", "forward-char", "forward-line"}) {
      t.fails("(" + word + " 1 2)", "wrong-number-of-args: " + word);
    }
    for (String word : new String[] {"search-forward", "search-backward"}) {
      t.fails("(" + word + ")", "wrong-number-of-args: " + word);
      t.fails("(" + word + " \"\" 2 3)", "wrong-number-of-args: " + word);
    }
    t.fails("(-)", "wrong-number-of-args: -");
    t.fails("(funcall)", "wrong-number-of-args: funcall");
    t.fails("(+ 1 'a \"b\")", "wrong-type: a");
    t.fails("(substring 'a 'b 'c)", "wrong-type: a");
    t.fails("(substring \"\" 'b 'c)", "wrong-type: b");
    t.fails("(put-face 99 'b 1)", "wrong-type: b");
    t.fails("(put-face 99 -1 100)", "out-of-range: 99");
    t.fails("(put-face 1 -1 100)", "out-of-range: -1");
    t.fails("(put-face 1 1 100)", "out-of-range: 100");
  }

  private static void lists() {
    Talk t = new Talk();
    t.is("(list (cons 1 2) (car '(1 . 2)) (cdr '(1 . 2)) (car nil) (cdr nil))", "((1 . 2) 1 2 nil nil)");
    t.fails("(cdr \"a\")", "wrong-type: \"a\"");
    t.is("(let ((c (cons 1 2))) (list (setcar c 3) (setcdr c 4) c))", "(3 4 (3 . 4))");
    t.fails("(setcar nil 1)", "wrong-type");
    t.is("(list (nth 0 '(a b)) (nth 1 '(a b)) (nth 2 '(a b)) (nth -5 '(a b)) (nth 9999 '(a b)))", "(a b nil a nil)");
    t.is("(list (nthcdr 1 '(a b)) (nthcdr 2 '(a b)) (nthcdr 3 '(a b)) (nthcdr -1 '(a)) (nthcdr 1 '(a . b)))", "((b) nil nil (a) b)");
    t.fails("(nth 1 '(a . b))", "wrong-type: b");
    t.fails("(nthcdr 2 '(a . b))", "wrong-type: b");
    t.fails("(nth 0 5)", "wrong-type: 5");
    t.is("(let ((c (list 1 2 3))) (setcdr (cdr (cdr c)) c) (list (nth 4096 c) (nth 5000 c) (car (nthcdr 134217727 c))))", "(2 2 2)");
    t.is("(list (length nil) (length '(1 2)) (length \"abc\"))", "(0 2 3)");
    t.fails("(length '(1 . 2))", "wrong-type: (1 . 2)");
    t.fails("(length 'a)", "wrong-type: a");
    t.is("(list (reverse nil) (reverse '(1 2 3)))", "(nil (3 2 1))");
    t.is("(list (append nil 5) (append '(1) '(2)) (append '(1 2) 3) (append nil nil))", "(5 (1 2) (1 2 . 3) nil)");
    t.fails("(append 1 nil)", "wrong-type: 1");
    t.is("(let ((l '(2))) (eq l (cdr (append '(1) l))))", "t");
    t.is("(list (memq 'b '(a b c)) (memq \"b\" '(\"b\")) (member \"b\" '(a \"b\" c)) (member '(1) '((1) 2)) (memq 1 nil))", "((b c) nil (\"b\" c) ((1) 2) nil)");
    t.is("(list (assq 'b '(a (b . 1) (b . 2))) (assq \"b\" '((\"b\"))) (assoc \"b\" '(b nil (\"b\" 2))) (assq nil '(nil 5 (nil . 3))))",
        "((b . 1) nil (\"b\" 2) (nil . 3))");
    t.fails("(memq 1 '(1 . 2))", "wrong-type: (1 . 2)");
    t.is("(list (null nil) (null 1) (consp '(1)) (consp nil) (symbolp 'a) (symbolp nil) (symbolp 1) (intp 1) (intp \"\") (stringp \"\") (stringp 'a))",
        "(t nil t nil t t nil t nil t nil)");
    t.does("(setq big '(0)) (let ((n 0)) (while (< n 12) (setq n (+ n 1) big (append big big))))");
    t.fails("(setq big (append big nil))", "heap-full");
    t.does("(let ((n 0)) (setq a big) (while (< n 12) (setq n (+ n 1) a (cdr a))))");
    t.is("(length big)", "4096");
    t.fails("(setq more (cons 1 big)) (length more)", ("wrong-type: (1 " + Talk.times("0 ", 200)).substring(0, 200));
  }

  private static void equality() {
    Talk t = new Talk();
    t.is("(list (eq 1 1) (eq 'a 'a) (eq \"\" \"\") (eq '(1) '(1)) (eq nil nil) (eq (current-buffer) (current-buffer)))", "(t t nil nil t t)");
    t.is("(let ((s \"a\")) (eq s s))", "t");
    t.is("(list (equal \"ab\" \"ab\") (equal \"ab\" \"ac\") (equal \"a\" \"ab\") (equal \"\" \"\") (equal '(1 (2 . \"x\")) '(1 (2 . \"x\"))) (equal '(1 2) '(1 3)) (equal '(1) 1))",
        "(t nil nil t t nil nil)");
    t.is("(list (equal (marker 1) (marker 1)) (equal 'a \"a\"))", "(nil nil)");
    t.does("(setq a (list 1) b (list 1)) (setcdr a a) (setcdr b b)");
    t.fails("(equal a b)", "circular");
    t.is("(equal a a)", "t");
    t.is("(equal (cons 1 a) (cons 2 b))", "nil");
    t.fails("(member a (list 1 b))", "circular");
    t.fails("(assoc a (list b (list b)))", "circular");
    // 2048 conses each: 1 + 2048 + 2047 pairs are compared, one more is not; member begins anew for each element.
    t.does("(setq l '(0)) (let ((n 0)) (while (< n 11) (setq n (+ n 1) l (append l l))))");
    t.does("(setq x (append l nil))");
    t.is("(list (length x) (equal l x))", "(2048 t)");
    t.is("(equal (cons l (cdr l)) (cons x (cdr x)))", "t");
    t.fails("(equal (cons l l) (cons x x))", "circular");
    t.fails("(equal (cons 1 (cons l (cdr l))) (cons 1 (cons x (cdr x))))", "circular");
    t.is("(equal (cons l (cons l 1)) (cons l (cons x 1)))", "t");
    t.is("(length (member l (list (cdr l) (cdr x) 5 x 6)))", "2");
  }

  private static void numbers() {
    Talk t = new Talk();
    t.is("(list (+) (+ 5) (+ 1 2 3) (*) (* 4) (* 2 3 4) (- 5) (- 5 1) (- 5 1 2))", "(0 5 6 1 4 24 -5 4 2)");
    t.is("(list (+ 134217727 1) (- -134217728) (* 65536 65536) (* 134217727 2) (- -134217728 1))", "(-134217728 -134217728 0 -2 134217727)");
    t.is("(list (/ 7 2) (/ -7 2) (/ 7 -2) (% 7 2) (% -7 2) (% 7 -2) (/ -134217728 -1))", "(3 -3 -3 1 -1 1 -134217728)");
    t.fails("(/ 1 0)", "arith");
    t.fails("(% 1 0)", "arith");
    t.is("(list (< 1 2) (< 2 2) (> 2 1) (> 2 2) (= 2 2) (= 1 2))", "(t nil t nil t nil)");
    t.is("(list (logand 12 10) (logior 12 10) (logand -1 5) (logior -8 1))", "(8 14 5 -7)");
    t.is("(list (shift 1 3) (shift 8 -3) (shift -8 -1) (shift 1 27) (shift 1 28) (shift 1 99) (shift -1 -99) (shift 5 0) (shift 134217727 -27) (shift 3 26))",
        "(8 1 -4 -134217728 -134217728 -134217728 -1 5 0 -67108864)");
  }

  private static void symbols() {
    Talk t = new Talk();
    t.is("(list (set 'a 5) a (symbol-value 'a) (boundp 'a) (boundp 'b))", "(5 5 5 t nil)");
    t.fails("(symbol-value 'b)", "void-variable: b");
    t.fails("(set nil 1)", "constant");
    t.fails("(set t 1)", "constant: t");
    t.fails("(fset t 1)", "constant: t");
    t.fails("(set 5 1)", "wrong-type: 5");
    t.is("(list (symbol-function 'car) (symbol-function 'if) (symbol-function 'a) (fset 'a '(lambda ())) (symbol-function 'a))",
        "(car nil nil (lambda nil) (lambda nil))");
    t.is("(list (symbol-name 'abc) (intern \"abc\") (eq (intern \"nil\") nil) (intern \"a b\"))", "(\"abc\" abc t a b)");
    t.fails("(intern \"\")", "out-of-range: \"\"");
    t.is("(list (intern \"x\") (eq (intern \"x\") 'x))", "(x t)");
    t.fails("(intern \"abcdefghijklmnopqrstuvwxy\")", "out-of-range: \"abcdefghijklmnopqrstuvwxy\"");
    int had = t.box.about(3);
    t.does("(intern \"abcdefghijklmnopqrstuvwx\")");
    Talk.same("one symbol more", t.box.about(3), had + 1);
    t.does("'(car condition-case too-many-symbols &rest last-key macro)");
    Talk.same("told ones are none", t.box.about(3), had + 1);
  }

  private static void strings() {
    Talk t = new Talk();
    t.is("(list (concat) (concat \"a\") (concat \"a\" \"\" \"bc\"))", "(\"\" \"a\" \"abc\")");
    t.is("(list (substring \"abc\" 0 3) (substring \"abc\" 1 2) (substring \"abc\" 3 3) (substring \"\" 0 0))", "(\"abc\" \"b\" \"\" \"\")");
    t.fails("(substring \"abc\" 4 5)", "out-of-range: 4");
    t.fails("(substring \"abc\" -1 5)", "out-of-range: -1");
    t.fails("(substring \"abc\" 1 4)", "out-of-range: 4");
    t.fails("(substring \"abc\" 2 1)", "out-of-range: 1");
    t.is("(list (string= \"a\" \"a\") (string= \"a\" \"b\") (string= \"a\" \"aa\") (string< \"a\" \"b\") (string< \"b\" \"a\") (string< \"a\" \"aa\") (string< \"aa\" \"a\") (string< \"a\" \"a\"))",
        "(t nil nil t nil t nil nil)");
    t.is("(list (sign \"abc\" 0) (sign \"abc\" 2) (sign \"123456789\" 8))", "(97 99 57)");
    t.fails("(sign \"abc\" 3)", "out-of-range: 3");
    t.fails("(sign \"abc\" -1)", "out-of-range: -1");
    t.is("(list (string 97) (string 0) (length (string 127)))", "(\"a\" \"\0\" 1)");
    t.fails("(string 128)", "out-of-range: 128");
    t.fails("(string -1)", "out-of-range: -1");
    t.is("(list (number \"12\") (number \"-12\") (number \"\") (number \"-\") (number \"1a\") (number \" 1\") (number \"268435457\"))", "(12 -12 0 0 0 0 1)");
    t.does("(setq s \"0123456789\") (let ((n 0)) (while (< n 7) (setq n (+ n 1) s (concat s s))))");
    t.is("(length (concat s (substring s 0 720)))", "2000");
    t.fails("(concat s (substring s 0 721))", "too-long");
    t.fails("(concat s s s s s s s s s s)", "too-long");
  }

  private static void printing() {
    Talk t = new Talk();
    t.is("(list 'a -5 \"a\\\"b\\\\\" (marker 1) (current-buffer) ''x '(1 . 2) '(1 . (2 . 3)) (list 'quote))",
        "(a -5 \"a\\\"b\\\\\" #marker #buffer main 'x (1 . 2) (1 2 . 3) (quote))");
    t.is("'(a quote b)", "(a quote b)");
    t.is("'(-134217728 134217727 0 10 100)", "(-134217728 134217727 0 10 100)");
    t.is("(length (print (substring (concat \"" + Talk.times("x", 300) + "\") 0 198)))", "200");
    t.is("(length (print \"" + Talk.times("x", 199) + "\"))", "200");
    t.is("(print \"" + Talk.times("x", 300) + "\")", ("\"\\\"" + Talk.times("x", 300)).substring(0, 200));
    t.does("(setq c (list 1)) (setcar c c)");
    t.is("c", Talk.times("(", 200));
    t.does("(setcar c 'quote) (setcdr c (list c))");
    t.is("c", Talk.times("'", 200));
    t.does("(setcar c 1) (setcdr c c)");
    t.is("c", ("(" + Talk.times("1 ", 100)).substring(0, 200));
  }
}
