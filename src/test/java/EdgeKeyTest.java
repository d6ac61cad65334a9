/** COMMANDS and keys, promise 5: what waits, what is called, what is undefined. */
public final class EdgeKeyTest {
  public static void main(String[] args) {
    notAKey();
    whatIsInserted();
    whatIsUndefined();
    eightThatWait();
    theNinth();
    theNinthWithoutABinding();
    whatWaits();
    whatIsCalled();
    lastKey();
    localThenGlobal();
    commandsBegin();
    commandsEnd();
    messageOfAnError();
    shownAfterEachKey();
    Talk.end();
  }

  /** NONE if it is not 0 .. 127. */
  private static void notAKey() {
    for (int k : new int[] {-1, 128, 129, 255, 97 + 128, 97 - 256, Integer.MIN_VALUE, Integer.MAX_VALUE}) {
      Talk t = Talk.after("(define-key global-map \"ab\" 'point) (message \"told\")");
      String was = t.state() + t.message();
      Talk.same("key " + k, t.box.key(k), -1);
      Talk.same("nothing happened", t.state() + t.message(), was);
      t.box.key('a');
      Talk.same("key " + k, t.box.key(k), -1);
      Talk.same("it goes on waiting", t.box.about(9), 1);
      Talk.same("message", t.message(), "a");
      Talk.same("called", t.box.key('b'), 1);
    }
    Talk t = new Talk();
    Talk.same("0 is one", t.box.key(0), 3);
    Talk.same("127 is one", t.box.key(127), 3);
  }

  /** One alone, 32 .. 126, is inserted. */
  private static void whatIsInserted() {
    for (int k = 0; k < 128; k++) {
      Talk t = new Talk();
      boolean put = k >= 32 && k <= 126;
      Talk.same("key " + k, t.box.key(k), put ? 1 : 3);
      Talk.same("end behind " + k, t.box.buffer(0, 1), put ? 2 : 1);
      Talk.same("sign of " + k, t.box.sign(0, 1), put ? k : -1);
      String sign = k < 32 || k == 127 ? "^" + (char) (k ^ 64) : "" + (char) k;
      Talk.same("message of " + k, t.message(), put ? "" : sign + " undefined");
    }
    Talk t = new Talk();
    t.keys("ab");
    t.does("(goto-char 2)");
    t.keys("-");
    Talk.same("at point", t.text(0), "a-b");
    Talk.same("point", t.box.buffer(0, 0), 3);
    t.does("(set-buffer (buffer \"o\"))");
    t.keys("c");
    Talk.same("in the selected window's buffer", t.text(0), "a-cb");
  }

  private static void whatIsUndefined() {
    Talk t = Talk.after("(define-key global-map \"\030a\" 'point) (insert \"x\")");
    t.does("");
    String was = t.state();
    t.box.key(24);
    Talk.same("undefined", t.box.key('b'), 3);
    Talk.same("message", t.message(), "^Xb undefined");
    Talk.same("nothing else", t.state(), was);
    t.box.key(24);
    Talk.same("with a tab", t.box.key(9), 3);
    Talk.same("a tab as ^I", t.message(), "^X^I undefined");
    Talk.same("shown", t.row(11), "^X^I undefined");
    t.box.key(24);
    Talk.same("with itself", t.box.key(24), 3);
    Talk.same("message", t.message(), "^X^X undefined");
    Talk.same("none waits", t.box.about(9), 0);
    Talk.same("no sign was put", t.text(0), "x");
    t.keys("b");
    Talk.same("alone it is", t.text(0), "xb");
  }

  /** 8 at most wait. */
  private static void eightThatWait() {
    Talk t = Talk.after("(define-key global-map \"abcdefgh\" (lambda () (insert \"eight\")))");
    for (int i = 0; i < 7; i++) {
      Talk.same("waits", t.box.key('a' + i), 0);
      Talk.same("so many", t.box.about(9), i + 1);
      Talk.same("message", t.message(), "abcdefgh".substring(0, i + 1));
    }
    Talk.same("the eighth calls", t.box.key('h'), 1);
    Talk.same("text", t.text(0), "eight");
    Talk.same("none waits", t.box.about(9), 0);
  }

  /** The 9th is undefined, with all of them. */
  private static void theNinth() {
    Talk t = Talk.after("(define-key global-map \"abcdefghi\" (lambda () (insert \"nine\"))) (define-key global-map \"i\" (lambda () (insert \"alone\")))");
    t.keys("abcdefgh");
    Talk.same("eight wait", t.box.about(9), 8);
    Talk.same("message", t.message(), "abcdefgh");
    t.does("");
    String was = t.state();
    Talk.same("the ninth", t.box.key('i'), 3);
    Talk.same("message", t.message(), "abcdefghi undefined");
    Talk.same("none waits", t.box.about(9), 0);
    Talk.same("nothing else", t.state().replace("about 0", ""), was.replace("about 8", "").replace("about 0", ""));
    Talk.same("text", t.text(0), "");
    t.keys("i");
    Talk.same("alone it is called", t.text(0), "alone");
    t.is("last-key", "105");
  }

  private static void theNinthWithoutABinding() {
    Talk t = Talk.after("(setq m (make-map)) (define-key m \"a\" m) (setq global-map m)");
    t.keys("aaaaaaaa");
    Talk.same("eight wait", t.box.about(9), 8);
    Talk.same("the ninth, too, would come to a map", t.box.key('a'), 3);
    Talk.same("message", t.message(), "aaaaaaaaa undefined");
    t.keys("aaaaaaaa");
    Talk.same("the ninth is no letter", t.box.key(1), 3);
    Talk.same("message", t.message(), "aaaaaaaa^A undefined");
    t.keys("aaaaaaa");
    Talk.same("the eighth is undefined", t.box.key('b'), 3);
    Talk.same("message", t.message(), "aaaaaaab undefined");
    t.does("(setq m nil global-map nil)");
  }

  /** It comes to a map: they wait. */
  private static void whatWaits() {
    Talk t = Talk.after("(define-key global-map \"a\" (make-map)) (define-key global-map \"b\" '(keymap . 5)) (define-key global-map \"c\" '(keymap))");
    Talk.same("an empty map", t.box.key('a'), 0);
    Talk.same("nothing is in it", t.box.key('x'), 3);
    Talk.same("no proper list: called", t.box.key('b'), 2);
    Talk.same("message", t.message(), "void-function: (keymap . 5)");
    Talk.same("a map", t.box.key('c'), 0);
    t.does("(define-key global-map \"cd\" (lambda () (insert \"D\")))");
    Talk.same("defined since", t.box.key('d'), 1);
    Talk.same("text", t.text(0), "D");
    t.box.key('a');
    t.does("(define-key global-map \"a\" 5)");
    Talk.same("no map any more", t.box.key('x'), 3);
    Talk.same("message", t.message(), "ax undefined");
  }

  /** A binding that is no map is called with nothing. */
  private static void whatIsCalled() {
    String[][] cases = {{"'point", ""}, {"(lambda ())", ""}, {"(lambda (&optional a &rest b) (car 5))", "wrong-type: 5"}, {"(lambda (a) a)", "wrong-number-of-args: (lambda (a) a)"},
        {"'car", "wrong-number-of-args: car"}, {"'nosuch", "void-function: nosuch"}, {"'if", "void-function: if"}, {"5", "void-function: 5"}, {"\"x\"", "void-function: \"x\""},
        {"t", "void-function: t"}, {"'(lambda)", "bad-form: (lambda)"}, {"'(point)", "void-function: (point)"}, {"'(macro lambda ())", "void-function: (macro lambda nil)"},
        {"(marker 1)", "void-function: #marker"}, {"(current-buffer)", "void-function: #buffer main"}, {"'funcall", "wrong-number-of-args: funcall"},
        {"(lambda () (throw 'a 1))", "no-catch: a"}, {"(lambda () (while t))", "fuel"}};
    for (String[] pair : cases) {
      Talk t = Talk.after("(define-key global-map \"k\" " + pair[0] + ")");
      Talk.same("key for " + pair[0], t.box.key('k'), pair[1].isEmpty() ? 1 : 2);
      Talk.same("message of " + pair[0], t.message(), pair[1]);
      Talk.same("none waits", t.box.about(9), 0);
      t.is("last-key", "107");
    }
    Talk t = Talk.after("(define-key global-map \"k\" nil)");
    Talk.same("NIL is none", t.box.key('k'), 1);
    Talk.same("text", t.text(0), "k");
    // Without a level of funcall: the lambda and 15 forms are sixteen.
    t = new Talk(8, 40, 100, 16);
    t.does("(define-key global-map \"k\" '(lambda () " + Talk.times("(progn ", 15) + Talk.times(")", 15) + "))");
    Talk.same("sixteen levels", t.box.key('k'), 1);
    t.does("(define-key global-map \"k\" '(lambda () " + Talk.times("(progn ", 16) + Talk.times(")", 16) + "))");
    Talk.same("seventeen levels", t.box.key('k'), 2);
    Talk.same("message", t.message(), "depth");
  }

  /** last-key gets the INT of the key (no other key does that). */
  private static void lastKey() {
    Talk t = Talk.after("(define-key global-map \"ab\" (lambda () (insert last-key))) (define-key global-map \"q\" 'nosuch)");
    t.keys("z");
    t.is("last-key", "0");
    t.box.key(1);
    t.is("last-key", "0");
    t.box.key('a');
    t.is("last-key", "0");
    t.box.key('b');
    Talk.same("set ahead of the call", t.text(0), "zb");
    t.is("last-key", "98");
    t.box.key('a');
    t.box.key('c');
    t.is("last-key", "98");
    t.box.key('q');
    t.is("last-key", "113");
    t.does("(setq last-key 'mine)");
    t.keys("y");
    t.is("last-key", "mine");
  }

  /** The local map, or, where that comes to NIL, the value of global-map. */
  private static void localThenGlobal() {
    Talk t = Talk.after("(setq m (make-map)) (use-map m)", "(define-key m \"ax\" (lambda () (insert \"1\"))) (define-key global-map \"ay\" (lambda () (insert \"2\")))",
        "(define-key global-map \"b\" (lambda () (insert \"3\"))) (define-key m \"c\" (lambda () (insert \"4\"))) (define-key global-map \"c\" (lambda () (insert \"5\")))");
    t.keys("axaybc");
    Talk.same("text", t.text(0), "1234");
    t.does("(define-key m \"c\" nil)");
    t.keys("c");
    Talk.same("NIL is none", t.text(0), "12345");
    t.does("(define-key m \"b\" (make-map))");
    Talk.same("a local map waits", t.box.key('b'), 0);
    Talk.same("and leads to nothing", t.box.key('b'), 3);
    for (String none : new String[] {"nil", "5", "'(keymap . 5)", "\"text\"", "'(97 . 98)"}) {
      Talk other = Talk.after("(setq global-map " + none + ")");
      Talk.same("no map", other.box.key('a'), 1);
      Talk.same("it is inserted", other.text(0), "a");
      Talk.same("undefined", other.box.key(1), 3);
    }
    t = Talk.after("(setq m (make-map)) (define-key m \"a\" (lambda () (insert \"A\"))) (setq global-map m)");
    t.keys("a");
    Talk.same("the value of global-map", t.text(0), "A");
  }

  /** At its beginning: no message, the selected window's buffer, steps 0, a BOUNDARY. */
  private static void commandsBegin() {
    Talk t = Talk.after("(define-key global-map \"k\" (lambda ()))", "(insert \"a\") (message \"told\") (set-buffer (buffer \"o\"))");
    Talk.same("current", t.box.about(6), 1);
    Talk.same("records", t.box.buffer(0, 3), 1);
    t.box.key('k');
    Talk.same("message", t.message(), "");
    Talk.same("current", t.box.about(6), 0);
    Talk.same("records", t.box.buffer(0, 3), 2);
    Talk.same("steps", t.box.about(0), 0);
    t = Talk.after("(message \"told\") (set-buffer (buffer \"o\"))");
    t.keys("k");
    Talk.same("message", t.message(), "");
    Talk.same("current", t.box.about(6), 0);
    t = Talk.after("(set-buffer (buffer \"o\"))");
    t.box.key(1);
    Talk.same("an undefined key is no command", t.box.about(6), 1);
  }

  /** What was done stays, bindings are undone. */
  private static void commandsEnd() {
    Talk t = Talk.after("(setq a 'old) (define-key global-map \"k\" (lambda () (let ((a 1)) (insert \"x\") (car a))))");
    Talk.same("an error", t.box.key('k'), 2);
    Talk.same("text", t.text(0), "x");
    t.is("a", "old");
    t.fails("(let ((a 1)) (insert \"y\") (throw 'b 2))", "no-catch: b");
    Talk.same("text", t.text(0), "xy");
    t.is("a", "old");
    t.fails("(message \"told\") (car 5)", "wrong-type: 5");
    t.is("(let ((a 2)) a)", "2");
  }

  /** For condition error with a string, that; else the name, ": " and the datum: 200 signs of all that. */
  private static void messageOfAnError() {
    for (int n : new int[] {0, 1, 199, 200, 201, 300}) {
      new Talk().fails("(error \"" + Talk.times("x", n) + "\")", Talk.times("x", Math.min(n, 200)));
    }
    for (int n : new int[] {190, 191, 192, 193, 194, 300}) {
      String whole = "mine: \"" + Talk.times("x", n) + "\"";
      new Talk().fails("(signal 'mine \"" + Talk.times("x", n) + "\")", whole.substring(0, Math.min(200, whole.length())));
    }
    new Talk().fails("(signal 'error '(\"a\"))", "error: (\"a\")");
    new Talk().fails("(signal 'error nil)", "error");
    new Talk().fails("(error \"a\\tb\")", "a\tb");
    Talk t = Talk.after("(setq c (list 1)) (setcdr c c)");
    t.fails("(signal 'round c)", ("round: (" + Talk.times("1 ", 100)).substring(0, 200));
    Talk.same("no sign more", t.box.message(200), -1);
  }

  private static void shownAfterEachKey() {
    Talk t = Talk.after("(define-key global-map \"\030k\" (lambda () (message \"done\")))");
    t.box.key(24);
    Talk.same("one that waits", t.row(11), "^X");
    t.box.key('k');
    Talk.same("one that calls", t.row(11), "done");
    t.keys("a");
    Talk.same("one that is inserted", t.row(11), "");
    Talk.same("and its text", t.row(0), "a");
    t.box.key(0);
    Talk.same("an undefined one", t.row(11), "^@ undefined");
    Talk.same("cursor", t.box.about(8), 1);
  }
}
