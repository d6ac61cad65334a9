/** Promises 6 to 11: what is asked that is not there, and the 512 calls. */
public final class EdgeAskTest {
  private static final int LEAST = Integer.MIN_VALUE;
  private static final int MOST = Integer.MAX_VALUE;

  public static void main(String[] args) {
    shown();
    message();
    sign();
    buffer();
    window();
    aboutNothingYet();
    aboutCommands();
    aboutKeys();
    aboutCounts();
    askingChangesNothing();
    aFewCalls();
    fiveHundredAndTwelveCalls();
    Talk.end();
  }

  /** NONE if there is none such. */
  private static void shown() {
    int[][] sizes = {{4, 20}, {9, 33}, {40, 80}};
    for (int[] size : sizes) {
      Box box = new Box(size[0], size[1], 100, 16);
      int rows = size[0];
      int columns = size[1];
      Talk.same("first", box.shown(0, 0), ' ');
      Talk.same("last", box.shown(rows - 1, columns - 1), ' ');
      Talk.same("mode line's last", box.shown(rows - 2, columns - 1), '-' + 1024);
      int[][] none = {{-1, 0}, {0, -1}, {rows, 0}, {0, columns}, {rows, columns}, {-1, -1}, {rows - 1, columns}, {rows, columns - 1}, {LEAST, 0}, {0, LEAST}, {MOST, 0},
          {0, MOST}, {MOST, MOST}, {LEAST, LEAST}, {1, -columns}};
      for (int[] pair : none) {
        Talk.same("shown(" + pair[0] + ", " + pair[1] + ")", box.shown(pair[0], pair[1]), -1);
      }
    }
  }

  /** Sign i of the message, of up to 200, from 0 on. */
  private static void message() {
    for (int n : new int[] {0, 1, 2, 199, 200, 201, 250}) {
      Talk t = new Talk();
      t.does("(message \"" + "abcdefghij".repeat(25).substring(0, n) + "\")");
      int most = Math.min(n, 200);
      for (int i : new int[] {0, 1, most - 1, most, most + 1, 199, 200, 201, -1, LEAST, MOST}) {
        Talk.same("message(" + i + ") of " + n, t.box.message(i), i >= 0 && i < most ? 'a' + i % 10 : -1);
      }
    }
    Talk t = new Talk();
    Talk.same("none at first", t.box.message(0), -1);
    t.does("(message (string 0))");
    Talk.same("a sign that is 0", t.box.message(0), 0);
    Talk.same("and no more", t.box.message(1), -1);
    t.does("(message \"long\")");
    t.does("(message \"a\")");
    Talk.same("nothing is left of a longer one", t.box.message(1), -1);
  }

  /** Sign at place p (from 1 on) of buffer b. */
  private static void sign() {
    Talk t = Talk.after("(insert \"ab\" 0) (set-buffer (buffer \"o\")) (insert \"x\")");
    int[][] want = {{0, 1, 'a'}, {0, 2, 'b'}, {0, 3, 0}, {0, 4, -1}, {0, 0, -1}, {0, -1, -1}, {0, LEAST, -1}, {0, MOST, -1}, {1, 1, 'x'}, {1, 2, -1}, {1, 0, -1},
        {2, 1, -1}, {5, 1, -1}, {6, 1, -1}, {-1, 1, -1}, {LEAST, 1, -1}, {MOST, 1, -1}};
    for (int[] one : want) {
      Talk.same("sign(" + one[0] + ", " + one[1] + ")", t.box.sign(one[0], one[1]), one[2]);
    }
    t.does("(delete-region 2 4)");
    Talk.same("gone", t.box.sign(0, 2), -1);
    Talk.same("left", t.box.sign(0, 1), 'a');
  }

  /** NONE for no such buffer, or another what. */
  private static void buffer() {
    Talk t = Talk.after("(insert \"ab\") (goto-char 2) (set-buffer (buffer \"other\"))");
    int[][] want = {{2, 3, 1, 1, 4}, {1, 1, 0, 0, 5}};
    for (int b = 0; b < 2; b++) {
      for (int what = 0; what < 5; what++) {
        Talk.same("buffer(" + b + ", " + what + ")", t.box.buffer(b, what), want[b][what]);
      }
      for (int what : new int[] {-1, 5, 6, LEAST, MOST}) {
        Talk.same("another what", t.box.buffer(b, what), -1);
      }
    }
    for (int b : new int[] {-1, 2, 3, 5, 6, LEAST, MOST}) {
      for (int what = -1; what < 6; what++) {
        Talk.same("no such buffer " + b, t.box.buffer(b, what), -1);
      }
    }
  }

  /** NONE for none such, or another what. */
  private static void window() {
    Talk t = Talk.after("(insert \"ab\\n\") (split-right) (goto-char 1)");
    int[][] want = {{0, 0, 11, 20, 0, 1, 1, 1}, {0, 20, 11, 20, 0, 1, 4, 0}};
    for (int k = 0; k < 2; k++) {
      for (int what = 0; what < 8; what++) {
        Talk.same("window(" + k + ", " + what + ")", t.box.window(k, what), want[k][what]);
      }
      for (int what : new int[] {-1, 8, 9, LEAST, MOST}) {
        Talk.same("another what", t.box.window(k, what), -1);
      }
    }
    for (int k : new int[] {-1, 2, 3, 5, 6, 11, LEAST, MOST}) {
      for (int what = -1; what < 9; what++) {
        Talk.same("no such window " + k, t.box.window(k, what), -1);
      }
    }
    t.does("(delete-window)");
    Talk.same("no more", t.box.window(1, 0), -1);
  }

  /** Each of the three 0 ahead of any command; NONE for another what. */
  private static void aboutNothingYet() {
    Talk t = new Talk();
    int[] want = {0, 0, 0, 0, 1, 1, 0, 0, 0, 0, 0, 0};
    for (int what = 0; what < 12; what++) {
      Talk.same("about(" + what + ")", t.box.about(what), want[what]);
    }
    for (int what : new int[] {-1, 12, 13, LEAST, MOST}) {
      Talk.same("another what", t.box.about(what), -1);
    }
    t.box.key(1);
    Talk.same("an undefined key is no command", t.box.about(1), 0);
    t.box.key(200);
    Talk.same("nor is what is no key", t.box.about(1), 0);
    t.feed("(list 1)");
    Talk.same("nor is feeding", t.box.about(1), 0);
    Talk.same("the tape", t.box.about(10), 8);
    t.box.load();
    Talk.same("live", t.box.about(1), 1);
    Talk.same("made", t.box.about(2), 3);
    Talk.same("steps", t.box.about(0), 2);
  }

  /** Steps, LIVE and cells of the latest command. */
  private static void aboutCommands() {
    Talk t = Talk.after("(setq a (list 1 2 3))");
    Talk.same("steps", t.box.about(0), 5);
    Talk.same("live", t.box.about(1), 1);
    Talk.same("made", t.box.about(2), 3 + 4 + 3);
    t.does("1");
    Talk.same("steps", t.box.about(0), 1);
    Talk.same("live", t.box.about(1), 4);
    Talk.same("made", t.box.about(2), 0);
    t.fails("(list 1 (car 5))", "wrong-type: 5");
    Talk.same("steps of one that ends by an error", t.box.about(0), 4);
    Talk.same("made", t.box.about(2), 5);
    t.fails("(", "read-error");
    Talk.same("steps", t.box.about(0), 0);
    Talk.same("made", t.box.about(2), 0);
  }

  /** Keys that wait or are undefined are none. */
  private static void aboutKeys() {
    Talk t = Talk.after("(define-key global-map \"ab\" (lambda () (list 1 2)))");
    int steps = t.box.about(0);
    int made = t.box.about(2);
    int live = t.box.about(1);
    for (int k : new int[] {'a', 'c', 1, 127, -1, 128}) {
      t.box.key(k);
      Talk.same("steps behind " + k, t.box.about(0), steps);
      Talk.same("live behind " + k, t.box.about(1), live);
      Talk.same("made behind " + k, t.box.about(2), made);
    }
    t.box.key('a');
    Talk.same("waits", t.box.about(9), 1);
    t.box.key('b');
    Talk.same("waits", t.box.about(9), 0);
    Talk.same("steps", t.box.about(0), 3);
    Talk.same("made", t.box.about(2), 2);
    Talk.same("live", t.box.about(1), 1 + 2 + 1 + 2 + 6);
    t.box.key('x');
    Talk.same("steps of one that is inserted", t.box.about(0), 0);
    Talk.same("made", t.box.about(2), 0);
    Talk.same("live", t.box.about(1), 12);
  }

  private static void aboutCounts() {
    Talk t = Talk.after("(setq one 1 two (marker 1)) (buffer \"o\") (split-below) (intern \"three\")");
    Talk.same("symbols", t.box.about(3), 3);
    Talk.same("buffers", t.box.about(4), 2);
    Talk.same("windows", t.box.about(5), 2);
    Talk.same("current", t.box.about(6), 0);
    Talk.same("markers", t.box.about(11), 1);
    t.does("(set-buffer \"o\")");
    Talk.same("current", t.box.about(6), 1);
    t.does("(setq two nil) (marker 1)");
    Talk.same("reached at its beginning, or made since", t.box.about(11), 2);
    t.does("");
    Talk.same("markers", t.box.about(11), 0);
    Talk.same("symbols are there for good", t.box.about(3), 3);
  }

  private static void askingChangesNothing() {
    Talk t = Talk.after("(insert \"abc\") (message \"told\")");
    t.feed("(insert ?d)");
    String was = t.state() + t.message();
    for (int i = -2; i < 14; i++) {
      t.box.shown(i, i);
      t.box.message(i);
      t.box.sign(i, i);
      t.box.buffer(i, i);
      t.box.window(i, i);
      t.box.about(i);
    }
    Talk.same("nothing", t.state() + t.message(), was);
    t.box.load();
    Talk.same("text", t.text(0), "abcd");
  }

  private static void aFewCalls() {
    EditorBox box = new EditorBox(0, 0, 0, 0);
    Talk.same("load at once", box.load(), 1);
    Talk.same("key at once", new EditorBox(9, 9, 9, 9).key('a'), 1);
    Talk.same("end at once", new EditorBox(9, 9, 9, 9).end(0), true);
    Talk.same("shown at once", new EditorBox(4, 20, 100, 16).shown(2, 0), '-' + 1024);
  }

  /** An object is used for at most 512 calls: each of them is a good one. */
  private static void fiveHundredAndTwelveCalls() {
    EditorBox keys = new EditorBox(8, 30, 5000, 150);
    for (int i = 0; i < 511; i++) {
      Talk.same("key " + i, keys.key('a' + i % 26), 1);
    }
    Talk.same("the 512th call", keys.buffer(0, 1), 512);
    EditorBox loads = new EditorBox(8, 30, 5000, 150);
    for (int i = 0; i < 256; i++) {
      // (list "abc" last-key)
      Talk.same("feed", loads.feed(0x286c6973, 0x74202261, 0x62632220, 0x6e696c29, 0x20202020), 20);
      Talk.same("load " + i, loads.load(), 1);
    }
    EditorBox tape = new EditorBox(8, 30, 5000, 150);
    for (int i = 1; i <= 510; i++) {
      Talk.same("feed " + i, tape.feed(0x20202020, 0x20202020, 0x20202020, 0x20202020, 0x20202020), Math.min(8192, 20 * i));
    }
    Talk.same("the 511th", tape.load(), 1);
    Talk.same("the 512th", tape.about(10), 0);
  }
}
