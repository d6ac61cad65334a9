/** Promise 5: key, and maps. */
public final class KeyTest {
  public static void main(String[] args) {
    wrongKeys();
    inserting();
    waiting();
    manyWaiting();
    calling();
    localMaps();
    maps();
    Talk.end();
  }

  private static void wrongKeys() {
    Talk t = new Talk();
    t.does("(message \"here\")");
    for (int k : new int[] {-1, 128, Integer.MIN_VALUE, Integer.MAX_VALUE, 97 + 128}) {
      Talk.same("no key", t.box.key(k), -1);
    }
    Talk.same("nothing happened", t.message(), "here");
    Talk.same("nothing waits", t.box.about(9), 0);
  }

  private static void inserting() {
    Talk t = new Talk();
    Talk.same("a", t.box.key('a'), 1);
    Talk.same("space", t.box.key(32), 1);
    Talk.same("~", t.box.key(126), 1);
    Talk.same("text", t.text(0), "a ~");
    Talk.same("each a command", t.box.buffer(0, 3), 5);
    Talk.same("no steps", t.box.about(0), 0);
    Talk.same("last-key", t.load("(message (print last-key))"), 1);
    Talk.same("is not set", t.message(), "0");
    for (int k : new int[] {31, 127, 0, 9, 10}) {
      Talk.same("undefined", t.box.key(k), 3);
    }
    Talk.same("message", t.message(), "^J undefined");
    t.box.key(127);
    Talk.same("message", t.message(), "^? undefined");
    t.box.key(9);
    Talk.same("message", t.message(), "^I undefined");
    Talk.same("text", t.text(0), "a ~");
    t.does("(message \"x\")");
    t.box.key('b');
    Talk.same("a command begins with no message", t.message(), "");
  }

  private static void waiting() {
    Talk t = new Talk();
    t.does("(define-key global-map \"\030\tz\" 'split-below) (define-key global-map \"q\" 'nosuch)");
    Talk.same("waits", t.box.key(24), 0);
    Talk.same("message", t.message(), "^X");
    Talk.same("shown", t.row(11), "^X");
    Talk.same("one waits", t.box.about(9), 1);
    int steps = t.box.about(0);
    Talk.same("waits", t.box.key(9), 0);
    Talk.same("message", t.message(), "^X^I");
    Talk.same("two wait", t.box.about(9), 2);
    Talk.same("no command", t.box.about(0), steps);
    t.does("(message \"between\")");
    Talk.same("they go on waiting", t.box.about(9), 2);
    Talk.same("called", t.box.key('z'), 1);
    Talk.same("none waits", t.box.about(9), 0);
    Talk.same("windows", t.box.about(5), 2);
    Talk.same("message", t.message(), "");
    t.is("last-key", "122");
    t.box.key(24);
    Talk.same("undefined", t.box.key('a'), 3);
    Talk.same("message", t.message(), "^Xa undefined");
    t.box.key(24);
    Talk.same("a space behind another key", t.box.key(32), 3);
    Talk.same("message", t.message(), "^X  undefined");
    Talk.same("none waits", t.box.about(9), 0);
    Talk.same("text", t.text(0), "");
    t.is("last-key", "122");
    Talk.same("an error", t.box.key('q'), 2);
    Talk.same("message", t.message(), "void-function: nosuch");
    t.is("last-key", "113");
  }

  private static void manyWaiting() {
    Talk t = new Talk();
    t.does("(define-key global-map \"aaaaaaaaa\" 'point)");
    for (int i = 1; i <= 8; i++) {
      Talk.same("waits", t.box.key('a'), 0);
      Talk.same("so many", t.box.about(9), i);
    }
    Talk.same("the ninth", t.box.key('a'), 3);
    Talk.same("message", t.message(), "aaaaaaaaa undefined");
    Talk.same("none waits", t.box.about(9), 0);
    t.does("(define-key global-map \"bbbbbbbb\" 'point)");
    t.keys("bbbbbbb");
    Talk.same("the eighth", t.box.key('b'), 1);
  }

  private static void calling() {
    Talk t = new Talk(12, 40, 100, 16);
    t.does("(define-key global-map \"a\" (lambda () (insert \"A\" last-key) (message \"done\")))");
    Talk.same("a", t.box.key('a'), 1);
    Talk.same("text", t.text(0), "Aa");
    Talk.same("message", t.message(), "done");
    Talk.same("steps", t.box.about(0), 5);
    t.does("(define-key global-map \"b\" (lambda (x) x))");
    Talk.same("with nothing", t.box.key('b'), 2);
    Talk.same("message", t.message(), "wrong-number-of-args: (lambda (x) x)");
    t.does("(define-key global-map \"b\" \"text\")");
    Talk.same("no function", t.box.key('b'), 2);
    Talk.same("message", t.message(), "void-function: \"text\"");
    t.does("(defmacro m () 1) (define-key global-map \"b\" 'm)");
    Talk.same("a macro is none", t.box.key('b'), 2);
    // The lambda's level and 15 forms are 16.
    t.does("(define-key global-map \"c\" '(lambda () " + Talk.times("(progn ", 15) + "1" + Talk.times(")", 15) + "))");
    Talk.same("without a level of funcall", t.box.key('c'), 1);
    t.does("(define-key global-map \"c\" '(lambda () " + Talk.times("(progn ", 16) + "1" + Talk.times(")", 16) + "))");
    Talk.same("depth", t.box.key('c'), 2);
    t.does("(define-key global-map \"d\" 'while-away) (defun while-away () (while t))");
    Talk.same("fuel", t.box.key('d'), 2);
    Talk.same("message", t.message(), "fuel");
    t.does("(define-key global-map \"e\" nil)");
    Talk.same("NIL is none", t.box.key('e'), 1);
    Talk.same("text", t.text(0), "Aae");
    t.does("(setq global-map 5)");
    Talk.same("no map at all", t.box.key('a'), 1);
    Talk.same("text", t.text(0), "Aaea");
    // What a key calls is alive though everything moves.
    t.does("(setq junk '(1 2 3)) (setq global-map (make-map)) (define-key global-map \"x\" '(lambda () (insert \"lives\")))");
    t.does("(setq junk nil)");
    Talk.same("x", t.box.key('x'), 1);
    Talk.same("text", t.text(0), "Aaealives");
  }

  private static void localMaps() {
    Talk t = new Talk();
    t.does("(setq m (make-map)) (define-key m \"a\" (lambda () (insert \"local\"))) (define-key m \"bc\" (lambda () (insert \"BC\"))) (use-map m)");
    t.does("(define-key global-map \"a\" (lambda () (insert \"global\"))) (define-key global-map \"bd\" (lambda () (insert \"BD\")))");
    t.keys("abcbd");
    Talk.same("the local map first, by all keys", t.text(0), "localBCBD");
    t.does("(define-key m \"a\" nil)");
    t.keys("a");
    Talk.same("NIL is none", t.text(0), "localBCBDglobal");
    t.does("(set-buffer (buffer \"o\")) (use-map nil)");
    t.does("(set-buffer \"o\")");
    t.keys("bc");
    Talk.same("the selected window's buffer counts", t.text(0), "localBCBDglobalBC");
    t.does("(show-buffer \"o\")");
    t.keys("bd");
    Talk.same("another buffer", t.text(1), "BD");
    Talk.same("without the map", t.box.key('b'), 0);
    Talk.same("without the map", t.box.key('c'), 3);
    t.does("(show-buffer \"main\") (setcdr m 5)");
    t.keys("bd");
    Talk.same("no map any more", t.text(0), "localBCBDglobalBCBD");
  }

  private static void maps() {
    Talk t = new Talk();
    t.is("(setq m (make-map))", "(keymap)");
    t.is("(list (define-key m \"a\" 'one) m)", "(one (keymap (97 . one)))");
    t.is("(list (define-key m \"b\" 'two) m)", "(two (keymap (98 . two) (97 . one)))");
    t.is("(list (define-key m \"a\" 'three) m)", "(three (keymap (98 . two) (97 . three)))");
    t.is("(progn (define-key m \"cd\" 4) m)", "(keymap (99 keymap (100 . 4)) (98 . two) (97 . three))");
    t.is("(progn (define-key m \"ae\" 5) m)", "(keymap (99 keymap (100 . 4)) (98 . two) (97 keymap (101 . 5)))");
    t.is("(list (lookup-key m \"a\") (lookup-key m \"ae\") (lookup-key m \"aef\") (lookup-key m \"x\") (lookup-key m \"\") (lookup-key 5 \"a\") (lookup-key nil \"a\") (lookup-key m \"cd\"))",
        "((keymap (101 . 5)) 5 nil nil nil nil nil 4)");
    t.is("(list (define-key m \"z\" nil) (lookup-key m \"z\") (nth 1 m))", "(nil nil (122))");
    t.fails("(define-key 5 \"\" 1)", "wrong-type: 5");
    t.fails("(define-key 5 6 1)", "wrong-type: 6");
    t.fails("(define-key '(keymap . 5) \"a\" 1)", "wrong-type: (keymap . 5)");
    t.fails("(define-key nil \"a\" 1)", "wrong-type");
    t.fails("(define-key m \"\" 1)", "out-of-range: \"\"");
    t.fails("(lookup-key m 5)", "wrong-type: 5");
    t.fails("(use-map 5)", "wrong-type: 5");
    t.fails("(use-map '(1 2))", "wrong-type: (1 2)");
    t.is("(list (use-map nil) (eq (use-map m) m))", "(nil t)");
    t.is("(progn (setq k '(keymap junk 5 (1 . 2) (97 . first) (97 . second))) (lookup-key k \"a\"))", "first");
  }
}
