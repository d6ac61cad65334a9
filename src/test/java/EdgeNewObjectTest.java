/** Promise 1: what is less or more is the nearest, each by itself. */
public final class EdgeNewObjectTest {
  private static final int LEAST = Integer.MIN_VALUE;
  private static final int MOST = Integer.MAX_VALUE;

  public static void main(String[] args) {
    rows();
    columns();
    fuel();
    depth();
    eachByItself();
    symbolsWithValues();
    bufferZero();
    Talk.end();
  }

  private static void rows() {
    int[][] cases = {{LEAST, 4}, {-40, 4}, {0, 4}, {3, 4}, {4, 4}, {5, 5}, {39, 39}, {40, 40}, {41, 40}, {MOST, 40}};
    for (int[] pair : cases) {
      EditorBox box = new EditorBox(pair[0], 30, 200, 20);
      Talk.same("rows of the window of " + pair[0], box.window(0, 2), pair[1] - 1);
      Talk.same("the last row of " + pair[0], box.shown(pair[1] - 1, 0), ' ');
      Talk.same("a row more of " + pair[0], box.shown(pair[1], 0), -1);
      Talk.same("the mode line of " + pair[0], box.shown(pair[1] - 2, 3), 'm' + 1024);
    }
  }

  private static void columns() {
    int[][] cases = {{LEAST, 20}, {-80, 20}, {0, 20}, {19, 20}, {20, 20}, {21, 21}, {79, 79}, {80, 80}, {81, 80}, {MOST, 80}};
    for (int[] pair : cases) {
      EditorBox box = new EditorBox(10, pair[0], 200, 20);
      Talk.same("columns of the window of " + pair[0], box.window(0, 3), pair[1]);
      Talk.same("the last column of " + pair[0], box.shown(8, pair[1] - 1), '-' + 1024);
      Talk.same("a column more of " + pair[0], box.shown(8, pair[1]), -1);
    }
  }

  private static void fuel() {
    int[][] cases = {{LEAST, 100}, {0, 100}, {99, 100}, {100, 100}, {101, 101}, {4999, 4999}, {5000, 5000}, {5001, 5000}, {MOST, 5000}};
    for (int[] pair : cases) {
      Talk t = new Talk(10, 30, pair[0], 20);
      // A let, its 1 value, the while and its last look make 6 steps; a turn has 7.
      int turns = (pair[1] - 6) / 7;
      String code = "(let ((n " + turns + ")) (while (< 0 n) (setq n (- n 1)))" + Talk.times(" 1", pair[1] - 6 - 7 * turns);
      t.does(code + ")");
      Talk.same("all steps of " + pair[0], t.box.about(0), pair[1]);
      t.fails(code + " 1)", "fuel");
      Talk.same("no step more of " + pair[0], t.box.about(0), pair[1]);
    }
  }

  private static void depth() {
    int[][] cases = {{LEAST, 16}, {0, 16}, {15, 16}, {16, 16}, {17, 17}, {18, 18}, {149, 149}, {150, 150}, {151, 150}, {MOST, 150}};
    for (int[] pair : cases) {
      Talk t = new Talk(10, 30, 5000, pair[0]);
      t.does("(defun g (n) (if (< 0 n) (g (- n 1))))");
      // The form, the lambda and the if are three levels for each call, the last one's (< 0 n) a fourth.
      int calls = (pair[1] - 4) / 3;
      int around = pair[1] - 4 - 3 * calls;
      String code = "(g " + calls + ")";
      t.does(Talk.times("(progn ", around) + code + Talk.times(")", around));
      t.fails(Talk.times("(progn ", around + 1) + code + Talk.times(")", around + 1), "depth");
    }
  }

  private static void eachByItself() {
    Talk t = new Talk(3, 81, 99, 151);
    Talk.same("rows", t.box.window(0, 2), 3);
    Talk.same("columns", t.box.window(0, 3), 80);
    t.fails("(while t)", "fuel");
    Talk.same("fuel", t.box.about(0), 100);
    t = new Talk(41, 19, 5001, 15);
    Talk.same("rows", t.box.window(0, 2), 39);
    Talk.same("columns", t.box.window(0, 3), 20);
    t.does(Talk.times("(progn ", 16) + Talk.times(")", 16));
    t.fails(Talk.times("(progn ", 17) + Talk.times(")", 17), "depth");
    t = new Talk(12, 34, 56, 78);
    Talk.same("only fuel is less", t.box.window(0, 2) * 100 + t.box.window(0, 3), 1134);
    t.fails("(while t)", "fuel");
    Talk.same("fuel", t.box.about(0), 100);
  }

  /** global-map and last-key have values (a new map, 0); no other symbol has one but NIL and T. */
  private static void symbolsWithValues() {
    StringBuilder bound = new StringBuilder();
    for (String word : Names.TOLD) {
      Talk t = new Talk();
      t.does("(message (print (boundp '" + word + ")))");
      bound.append(t.message().equals("t") ? word + " " : "");
    }
    Talk.same("symbols with a value", bound.toString(), "nil t global-map last-key ");
    new Talk().fails("anything", "void-variable: anything");
    new Talk().is("(list global-map last-key nil t)", "((keymap) 0 nil t)");
    Talk t = Talk.after("(define-key global-map \"a\" 'point) (setq last-key 9)");
    new Talk().is("(list global-map last-key)", "((keymap) 0)");
    t.is("(list global-map last-key)", "((keymap (97 . point)) 9)");
  }

  private static void bufferZero() {
    Talk t = new Talk();
    Talk.same("no sign", t.box.sign(0, 1), -1);
    Talk.same("end", t.box.buffer(0, 1), 1);
    t.is("(list (buffer-name (current-buffer)) (point) (point-max) (modified) (undo) (region 1 1))", "(\"main\" 1 1 nil nil \"\")");
    Talk.same("no other buffer", t.box.buffer(1, 0), -1);
  }
}
