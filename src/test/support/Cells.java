/** Code that is run where just so many cells may still be made. */
final class Cells {
  private static final int ALL = 6000;
  private static final String LONG_TEXT =
      "(setq s \"0123456789\") (setq s (concat s s s s s)) (setq s (concat s s s s)) (setq s (concat s s s s s s s s s s))";
  /** A string of 8 * (r - 1) signs takes r cells, and s has 251. */
  private static final String FILL =
      "(defun fill (n) (while (< 0 n) (substring s 0 (* 8 (- (if (< n 251) n 251) 1))) (setq n (- n 251))))";

  private Cells() {
  }

  private static Talk prepared(String setup, String code) {
    Talk t = new Talk();
    t.does(LONG_TEXT);
    t.does(FILL + setup);
    t.does("(defun test () " + code + ")");
    t.does("");
    return t;
  }

  /** The object behind evaluating code with so many cells free; it was read before. */
  static Talk evaluated(String setup, String code, int free) {
    Talk t = prepared(setup, code);
    // (progn (fill n) (test)) takes six cells itself.
    t.load("(progn (fill " + (ALL - t.box.about(1) - 6 - free) + ") (test))");
    return t;
  }

  /** The object behind reading, and then evaluating, code with so many cells free. */
  static Talk read(String code, int free) {
    Talk t = prepared("", "nil");
    t.load("(fill " + (ALL - t.box.about(1) - 2 - free) + ") " + code);
    return t;
  }

  static int left(Talk t) {
    return ALL - t.box.about(1) - t.box.about(2);
  }

  /** The code needs so many cells at once: with them it goes well, with one less it makes none. */
  static void needs(String setup, String code, int cells) {
    Talk t = evaluated(setup, code, cells);
    Talk.same(code + " with just its cells", t.message(), "");
    Talk.same(code + " takes all", left(t), 0);
    t = evaluated(setup, code, cells - 1);
    Talk.same(code + " with one cell less", t.message(), "heap-full");
    Talk.same(code + " makes none then", left(t), cells - 1);
  }
}
