/** A grid that is smallest or largest; fuel and depth at their smallest and largest. */
public final class MeetLimitsTest {
  public static void main(String[] args) {
    theSmallestGrid();
    theSmallestGridSplit();
    theLargestGrid();
    theLargestGridSplit();
    sixWindowsBesideEachOther();
    partsThatGrow();
    leastFuel();
    mostFuel();
    leastDepth();
    mostDepth();
    depthInEachOther();
    mostOfAll();
    Talk.end();
  }

  /** Four rows: two of text, a mode line, the message. */
  private static void theSmallestGrid() {
    Talk t = new Talk(0, 0, 5000, 150);
    Talk.same("rows", t.box.shown(3, 19), ' ');
    Talk.same("no more", t.box.shown(4, 0) + t.box.shown(0, 20), -2);
    t.does("(insert \"1\\n2\\n3\") (message \"a message of more than twenty signs\")");
    Talk.same("the line above point's", t.row(0), "2");
    Talk.same("point's line", t.row(1), "3");
    Talk.same("mode line", t.row(2), "-* main L3 C1-------");
    Talk.same("the message is cut", t.row(3), "a message of more th");
    Talk.same("but it is whole", t.message(), "a message of more than twenty signs");
    Talk.same("cursor", t.box.about(7) + "," + t.box.about(8), "1,1");
    t.declines("(split-below)");
    t.does("(insert \"456789012345678901\") (message \"\")");
    Talk.same("nineteen signs", t.row(1), "3456789012345678901");
    Talk.same("cursor", t.box.about(8), 19);
    t.box.key('2');
    Talk.same("just as long", t.row(1), "34567890123456789012");
    Talk.same("the cursor would be behind it", t.box.about(8), 19);
    t.box.key('3');
    Talk.same("one more", t.row(1), "3456789012345678901$");
    t.does("(show-buffer (buffer \"twenty-four signs-------\"))");
    Talk.same("the name is cut", t.row(2), "-- twenty-four signs");
  }

  /** Twenty columns: ten and ten, the left one with nine and a bar. */
  private static void theSmallestGridSplit() {
    Talk t = new Talk(4, 20, 5000, 150);
    t.does("(insert \"123456789\")");
    t.is("(list (split-right) (split-right) (split-below))", "(t nil nil)");
    Talk.same("nine are just as long, beside a bar", t.row(0), "123456789|123456789");
    Talk.same("bar", t.row(1), "         |");
    Talk.same("both mode lines are cut", t.row(2), "-* main L1-* main L1");
    Talk.same("cursor", t.box.about(8), 8);
    t.does("(insert \"0\")");
    Talk.same("ten are more than nine, but not than ten", t.row(0), "12345678$|1234567890");
    t.does("(other-window)");
    Talk.same("its own point", t.box.window(1, 6), 10);
    Talk.same("cursor", t.box.about(8), 19);
    t.does("(goto-char (point-max))");
    Talk.same("at most its last column", t.box.about(8), 19);
    t.is("(list (delete-window) (delete-window))", "(t nil)");
    Talk.same("over all", t.row(2), "-* main L1 C10------");
  }

  private static void theLargestGrid() {
    Talk t = new Talk(Integer.MAX_VALUE, Integer.MAX_VALUE, 5000, 150);
    Talk.same("rows and columns", t.box.shown(39, 79), ' ');
    Talk.same("no more", t.box.shown(40, 0) + t.box.shown(0, 80), -2);
    t.does("(let ((n 0)) (while (< n 38) (insert (print n) 10) (setq n (+ n 1))))");
    // 38 lines and the empty one behind them, on which point is: it is the 39th, and the window shows 38.
    Talk.same("half of 38 above point's line", t.row(0), "19");
    Talk.same("the cursor is 19 rows below", t.box.about(7), 19);
    t.does("(goto-char 1)");
    Talk.same("the first line", t.row(0), "0");
    Talk.same("the last of 38", t.row(37), "37");
    t.does("(goto-char (- (point-max) 1))");
    Talk.same("point's line is shown: nothing moves", t.row(0) + t.row(37), "037");
    t.does("(forward-char)");
    Talk.same("now it is not", t.row(0), "19");
    t.does("(message (concat \"" + Talk.times("m", 150) + "\" \"" + Talk.times("n", 150) + "\"))");
    Talk.same("200 signs", t.message(), Talk.times("m", 150) + Talk.times("n", 50));
    Talk.same("80 of them are shown", t.row(39), Talk.times("m", 80));
  }

  private static void theLargestGridSplit() {
    Talk t = new Talk(40, 80, 5000, 150);
    t.is("(list (split-below) (split-below) (split-below) (split-below))", "(t t t nil)");
    String sizes = "";
    for (int k = 0; k < 4; k++) {
      sizes += t.box.window(k, 0) + "+" + t.box.window(k, 2) + " ";
    }
    Talk.same("39 rows, cut in halves", sizes, "0+4 4+5 9+10 19+20 ");
    t.is("(list (other-window) (split-below) (other-window) (other-window) (split-below) (split-below))", "(t nil t t t t)");
    Talk.same("six", t.box.about(5), 6);
    t.is("(list (split-below) (split-right) (other-window) (split-right))", "(nil nil t nil)");
  }

  private static void sixWindowsBesideEachOther() {
    Talk t = new Talk(6, 80, 5000, 150);
    t.does("(insert \"abcdefghijklmnopqrstuvwxyz\")");
    t.is("(list (split-right) (split-right) (split-right) (split-right))", "(t t t nil)");
    Talk.same("10, 10, 20, 40 columns", t.row(0), "abcdefgh$|abcdefgh$|abcdefghijklmnopqr$|abcdefghijklmnopqrstuvwxyz");
    Talk.same("mode lines", t.row(4).substring(0, 40), "-* main L1-* main L1-* main L1 C26------");
    t.is("(list (other-window) (other-window) (split-right) (other-window) (other-window) (split-right))", "(t t t t t t)");
    Talk.same("10, 10, 10, 10, 20, 20", t.row(0),
        "abcdefgh$|abcdefgh$|abcdefgh$|abcdefgh$|abcdefghijklmnopqr$|abcdefghijklmnopqrs$");
    t.is("(split-right)", "nil");
    Talk.same("selected", t.box.window(4, 7), 1);
    Talk.same("cursor", t.box.about(8), 58);
  }

  /** In it, of each split the first part keeps the rows or columns that it had. */
  private static void partsThatGrow() {
    Talk t = new Talk(20, 40, 5000, 150);
    // The left half is split below and its lower part right; then the right half goes.
    t.does("(split-right) (split-below) (other-window) (split-right)");
    t.declines("(split-right)");
    t.does("(other-window) (other-window)");
    Talk.same("the right half is selected", t.box.window(3, 7), 1);
    t.is("(delete-window)", "t");
    String areas = "";
    for (int k = 0; k < 3; k++) {
      areas += t.box.window(k, 0) + "," + t.box.window(k, 1) + "+" + t.box.window(k, 2) + "," + t.box.window(k, 3) + " ";
    }
    Talk.same("the upper part is wider, the lower left one is as it was", areas, "0,0+9,40 9,0+10,10 9,10+10,30 ");
    Talk.same("the first window of that part is selected", t.box.window(0, 7), 1);
    t.does("(other-window)");
    t.is("(delete-window)", "t");
    Talk.same("the right one has it all", t.box.window(1, 1) + "+" + t.box.window(1, 3), "0+40");
    t.is("(list (delete-window) (delete-window))", "(t nil)");
    Talk.same("over all", t.box.window(0, 0) + "+" + t.box.window(0, 2), "0+19");
  }

  private static void leastFuel() {
    Talk t = new Talk(8, 30, 0, 150);
    // progn is one, and each 1 in it.
    Talk.same("just enough", t.load("(progn" + Talk.times(" 1", 99) + ")"), 1);
    Talk.same("steps", t.box.about(0), 100);
    t.fails("(progn" + Talk.times(" 1", 100) + ")", "fuel");
    Talk.same("steps", t.box.about(0), 100);
    t.fails(Talk.times("1 ", 101), "fuel");
    Talk.same("all things of a tape are one command", t.box.about(0), 100);
    t.fails(Talk.times("1 ", 99) + "(insert \"x\")", "fuel");
    Talk.same("the form was begun, its argument was not", t.text(0), "");
    t.does(Talk.times("1 ", 98) + "(insert \"x\")");
    Talk.same("both", t.text(0), "x");
    t.fails("(while t (insert \"y\"))", "fuel");
    // while, and then t, insert and "y" in turn: 33 turns make 100.
    Talk.same("what was done stays", t.text(0), "x" + Talk.times("y", 33));
    t.does("(undo)");
    Talk.same("and is taken back as one", t.text(0), "x");
    t.does("(define-key global-map \"k\" (lambda () (while t (insert \"z\"))))");
    Talk.same("a key has as much", t.box.key('k'), 2);
    Talk.same("the body is a step", t.text(0), "x" + Talk.times("z", 33));
  }

  private static void mostFuel() {
    Talk t = new Talk(8, 30, Integer.MAX_VALUE, 150);
    t.fails("(setq n 0) (while t (setq n (+ n 1)))", "fuel");
    Talk.same("steps", t.box.about(0), 5000);
    // setq and 0, then while; each turn has t, setq, +, n, 1: 999 turns leave two steps, t and setq.
    t.is("n", "999");
    t.does("(setq l nil)");
    t.fails("(while t (setq l (cons nil l)))", "fuel");
    // while; t, setq, cons, nil, l: 999 turns.
    t.is("(length l)", "999");
    t.is("(+" + Talk.times(" 1", 4000) + ")", "4000");
    Talk.same("message, print, + and each 1", t.box.about(0), 3 + 4000);
  }

  private static void leastDepth() {
    Talk t = new Talk(8, 30, 5000, 0);
    t.does(Talk.times("(progn ", 16) + "1" + Talk.times(")", 16));
    t.fails(Talk.times("(progn ", 16) + "(car 5)" + Talk.times(")", 16), "depth");
    t.fails(Talk.times("(progn ", 15) + "(car 5)" + Talk.times(")", 15), "wrong-type: 5");
    t.does(Talk.times("(let ((x 1)) ", 16) + "x" + Talk.times(")", 16));
    t.fails("(let ((x 1)) " + Talk.times("(let ((x (+ x 1))) ", 15) + "(message (print x))" + Talk.times(")", 16), "depth");
    t.is("(boundp 'x)", "nil");
    t.does("(setq n 0) (defun down () (setq n (+ n 1)) (down))");
    t.fails("(down)", "depth");
    // (down) and its call are two each; setq and + in it take two more: the eighth call has the sixteenth level.
    t.is("n", "7");
  }

  private static void mostDepth() {
    Talk t = new Talk(8, 30, 5000, Integer.MAX_VALUE);
    t.does("(setq n 0) (defun down () (setq n (+ n 1)) (down))");
    t.fails("(down)", "depth");
    t.is("n", "74");
    t.does("(defun sum (k) (if (= k 0) 0 (+ k (sum (- k 1)))))");
    // (sum k), its call, if and + are four for each number above 0; with 0 (= k 0) is the fourth: 148 in all, and
    // message and print around it.
    t.is("(sum 36)", "666");
    t.fails("(progn (progn (progn (sum 36))))", "depth");
    t.is("(condition-case e (sum 40) (depth e))", "(depth)");
  }

  /** Bindings of all levels at once: twenty in each. */
  private static void depthInEachOther() {
    Talk t = new Talk(8, 30, 5000, 150);
    String names = "a b c d e f g h i j k l m n o p q r s u";
    t.does("(defun deep (" + names + ") (if (= a 0) u (deep (- a 1)" + " b c d e f g h i j k l m n o p q r s (+ u 1))))");
    t.is("(deep 45 2 3 4 5 6 7 8 9 10 11 12 13 14 15 16 17 18 19 0)", "45");
    t.is("(condition-case nil (deep 99 2 3 4 5 6 7 8 9 10 11 12 13 14 15 16 17 18 19 0) (depth 'too-deep))", "too-deep");
    t.is("(list (boundp 'a) (boundp 'u))", "(nil nil)");
    t.does("(defun trip (n) (save-excursion (goto-char 1) (insert \"x\") (if (< 0 n) (trip (- n 1)))))");
    t.does("(insert \"end\") (trip 30)");
    Talk.same("each excursion is back behind what came ahead of it", t.box.buffer(0, 0), 3 + 1 + 31);
    t.fails("(trip 200)", "depth");
    Talk.same("also those that an error left", t.box.buffer(0, 0), t.box.buffer(0, 1));
  }

  /** The largest of all at once still has its cells, records and signs. */
  private static void mostOfAll() {
    Talk t = new Talk(40, 80, 5000, 150);
    t.makeBig();
    t.does("(setq f (lambda (x) x))");
    t.fails("(mapcar f big)", "heap-full");
    // What was live, with lambda's three conses and x's, and three cells of the form that was read.
    Talk.same("a cons each when it has answered", t.box.about(1) + t.box.about(2), 6000);
    Talk.same("live", t.box.about(1), 1 + 4096 + 4);
    t.does("(setq big nil)");
    t.does("(insert \"" + Talk.times("0123456789", 150) + "\")");
    t.fails("(insert 10)", "buffer-full");
    t.does("(goto-char 1)");
    Talk.same("one long line", t.row(0), Talk.times("0123456789", 8).substring(0, 79) + "$");
    Talk.same("a key has no room", t.box.key('x'), 2);
    Talk.same("its message", t.message(), "buffer-full");
    t.does("(delete-region 1 1501) (undo)");
    Talk.same("all back", t.box.buffer(0, 1), 1501);
  }
}
