/** PRIMITIVES on maps: what is a map, what binds, where it goes along. */
public final class EdgeMapTest {
  public static void main(String[] args) {
    whatIsAMap();
    whatBinds();
    definingKeys();
    alongTheWay();
    refusedKeys();
    lookingUp();
    usingMaps();
    aMapThatGrowsTooLong();
    Talk.end();
  }

  /** A proper list whose car is keymap. */
  private static void whatIsAMap() {
    Talk t = new Talk();
    t.is("(list (make-map) (eq (make-map) (make-map)))", "((keymap) nil)");
    for (String map : new String[] {"(keymap)", "(keymap 5)", "(keymap (97 . x) junk)", "(keymap . nil)", "(keymap keymap)"}) {
      Talk other = new Talk();
      other.does("(use-map '" + map + ")");
      other.is("(define-key '" + map + " \"b\" 'y)", "y");
    }
    for (String none : new String[] {"5", "keymap", "\"keymap\"", "(keymap . 5)", "(keymap (97 . x) . y)", "(5 keymap)", "((keymap))", "(map)", "(nil)"}) {
      Talk other = new Talk();
      other.refuses("(use-map '" + none + ")", "wrong-type: " + none);
      other.refuses("(define-key '" + none + " \"b\" 'y)", "wrong-type: " + none);
      other.is("(lookup-key '" + none + " \"a\")", "nil");
    }
    t.refuses("(define-key nil \"b\" 'y)", "wrong-type");
    t.is("(list (use-map nil) (lookup-key nil \"a\"))", "(nil nil)");
  }

  /** The cdr of the first cons in it, behind that, whose car is this INT; NIL is none. */
  private static void whatBinds() {
    Talk t = new Talk();
    t.is("(lookup-key '(keymap (97 . x) (97 . y)) \"a\")", "x");
    t.is("(lookup-key '(keymap 97 (98 . x) (a . y) (\"a\" . z) nil (97 . w)) \"a\")", "w");
    t.is("(lookup-key '(keymap (97) (97 . y)) \"a\")", "nil");
    t.is("(lookup-key '(keymap (97 . 5)) \"a\")", "5");
    t.is("(lookup-key '(keymap (97 1 2)) \"a\")", "(1 2)");
    t.is("(lookup-key '(keymap (0 . x) (127 . y)) (string 0))", "x");
    t.is("(lookup-key '(keymap (0 . x) (127 . y)) (string 127))", "y");
    t.is("(list (lookup-key '(keymap (96 . x) (98 . y)) \"a\") (lookup-key '(keymap (225 . x)) \"a\"))", "(nil nil)");
  }

  /** That cons's cdr, or, if there is no cons, a new one as the second element: v2, also NIL. */
  private static void definingKeys() {
    Talk t = Talk.after("(setq m (make-map))");
    t.is("(list (define-key m \"a\" 1) m)", "(1 (keymap (97 . 1)))");
    t.is("(list (define-key m \"b\" 2) m)", "(2 (keymap (98 . 2) (97 . 1)))");
    t.is("(list (define-key m \"a\" 3) m)", "(3 (keymap (98 . 2) (97 . 3)))");
    t.is("(list (define-key m \"a\" nil) m)", "(nil (keymap (98 . 2) (97)))");
    t.is("(list (define-key m \"c\" nil) m)", "(nil (keymap (99) (98 . 2) (97)))");
    t.is("(list (define-key m \"a\" 4) m)", "(4 (keymap (99) (98 . 2) (97 . 4)))");
    t.is("(let ((c (cons 97 1))) (define-key (list 'keymap 5 c) \"a\" 7) c)", "(97 . 7)");
    t.is("(progn (setq m (list 'keymap 5 '(97 . 1) '(97 . 2))) (define-key m \"a\" 7) (define-key m \"b\" 8) m)", "(keymap (98 . 8) 5 (97 . 7) (97 . 2))");
  }

  /** By bindings that are maps; where there is none a new map is bound, so too where it is no map. */
  private static void alongTheWay() {
    Talk t = Talk.after("(setq m (make-map))");
    t.is("(list (define-key m \"ab\" 1) m)", "(1 (keymap (97 keymap (98 . 1))))");
    t.is("(list (define-key m \"ac\" 2) m)", "(2 (keymap (97 keymap (99 . 2) (98 . 1))))");
    t.is("(list (define-key m \"abd\" 3) m)", "(3 (keymap (97 keymap (99 . 2) (98 keymap (100 . 3)))))");
    t.is("(list (define-key m \"a\" 4) m)", "(4 (keymap (97 . 4)))");
    t.is("(list (define-key m \"aa\" 5) m)", "(5 (keymap (97 keymap (97 . 5))))");
    t.is("(progn (setq m (list 'keymap (cons 97 '(keymap . 5)))) (define-key m \"ab\" 6) m)", "(keymap (97 keymap (98 . 6)))");
    t.is("(progn (setq m (list 'keymap (list 97))) (define-key m \"ab\" 7) m)", "(keymap (97 keymap (98 . 7)))");
    t.is("(progn (setq m (make-map)) (define-key m \"abcdefghij\" 8) (list (lookup-key m \"abcdefghij\") (lookup-key m \"abcdefghi\")))", "(8 (keymap (106 . 8)))");
    t.is("(let ((n (make-map))) (setq m (make-map)) (define-key m \"a\" n) (define-key m \"ab\" 9) n)", "(keymap (98 . 9))");
  }

  /** Ahead of it all, but behind the looks at kinds: wrong-type v, then out-of-range s if it is empty. */
  private static void refusedKeys() {
    Talk t = Talk.after("(setq m (make-map))");
    t.refuses("(define-key m \"\" 1)", "out-of-range: \"\"");
    t.refuses("(define-key 5 \"\" 1)", "wrong-type: 5");
    t.refuses("(define-key 5 6 1)", "wrong-type: 6");
    t.refuses("(define-key m 6 1)", "wrong-type: 6");
    t.is("m", "(keymap)");
    t.does("(setq before (define-key m \"a\" 1))");
    t.fails("(define-key '(keymap . 1) \"ab\" 1)", "wrong-type: (keymap . 1)");
    Talk.same("no cell but those of the reading", t.box.about(2), 4 + 1 + 2 + 2);
  }

  /** The binding gone along to, NIL if that can't be, or s is empty. */
  private static void lookingUp() {
    Talk t = Talk.after("(setq m (make-map)) (define-key m \"ab\" 1) (define-key m \"c\" 2)");
    t.is("(list (lookup-key m \"ab\") (lookup-key m \"c\") (lookup-key m \"a\"))", "(1 2 (keymap (98 . 1)))");
    t.is("(list (lookup-key m \"\") (lookup-key m \"b\") (lookup-key m \"ac\") (lookup-key m \"abc\") (lookup-key m \"cc\") (lookup-key m \"ba\"))", "(nil nil nil nil nil nil)");
    t.is("(list (lookup-key 5 \"\") (lookup-key 5 \"a\") (lookup-key nil \"a\") (lookup-key '(keymap . 5) \"a\") (lookup-key '((97 . 1)) \"a\"))", "(nil nil nil nil nil)");
    t.does("(lookup-key m \"xyz\")");
    t.is("m", "(keymap (99 . 2) (97 keymap (98 . 1)))");
    t.refuses("(lookup-key m 97)", "wrong-type: 97");
  }

  /** The current buffer's local map: a map or NIL: v. */
  private static void usingMaps() {
    Talk t = Talk.after("(setq m (make-map)) (define-key m \"a\" (lambda () (insert \"A\")))");
    t.is("(list (eq (use-map m) m) (use-map nil))", "(t nil)");
    t.does("(set-buffer (buffer \"o\")) (use-map m)");
    t.keys("a");
    Talk.same("not here", t.text(0), "a");
    t.does("(show-buffer \"o\")");
    t.keys("a");
    Talk.same("here", t.text(1), "A");
    t.refuses("(use-map 5)", "wrong-type: 5");
    t.keys("a");
    Talk.same("refused, it stays", t.text(1), "AA");
    t.does("(use-map nil)");
    t.keys("a");
    Talk.same("none", t.text(1), "AAa");
  }

  /** One more than 4096 things are no proper list any more. */
  private static void aMapThatGrowsTooLong() {
    Talk t = new Talk();
    t.makeBig();
    t.does("(setcar big 'keymap)");
    t.is("(list (define-key big \"a\" 1) (lookup-key big \"a\") (length (cdr big)))", "(1 nil 4096)");
    t.fails("(define-key big \"b\" 2)", ("wrong-type: (keymap (97 . 1)" + Talk.times(" 0", 200)).substring(0, 200));
    t.does("(setcdr (cdr big) (nthcdr 3 big))");
    t.is("(lookup-key big \"a\")", "1");
    t.is("(list (define-key big \"a\" 2) (lookup-key big \"a\"))", "(2 2)");
  }
}
