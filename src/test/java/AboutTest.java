/** Promise 11: about; the other numbers of it are asked in the other tests, too. */
public final class AboutTest {
  public static void main(String[] args) {
    Talk t = new Talk(8, 30, 200, 20);
    int[] fresh = {0, 0, 0, 0, 1, 1, 0, 0, 0, 0, 0, 0};
    for (int what = 0; what < 12; what++) {
      Talk.same("fresh, what " + what, t.box.about(what), fresh[what]);
    }
    for (int what : new int[] {-1, 12, 99, Integer.MIN_VALUE, Integer.MAX_VALUE}) {
      Talk.same("no such what", t.box.about(what), -1);
    }
    t.does("(setq one (marker 1)) (insert \"abc\") (buffer \"o\") (split-below)");
    int[] then = {8, 1, 3 + 2 + 1 + 2 + 2 + 2 + 2 + 1, 1, 2, 2, 0, 0, 3, 0, 0, 1};
    for (int what = 0; what < 12; what++) {
      Talk.same("then, what " + what, t.box.about(what), then[what]);
    }
    t.feed("(define-key global-map \"ab\" 'point)");
    Talk.same("signs on the tape", t.box.about(10), 35);
    t.box.load();
    Talk.same("none", t.box.about(10), 0);
    Talk.same("live", t.box.about(1), 2);
    int made = t.box.about(2);
    int steps = t.box.about(0);
    t.box.key('a');
    Talk.same("waits", t.box.about(9), 1);
    Talk.same("steps of the latest command", t.box.about(0), steps);
    Talk.same("cells of it", t.box.about(2), made);
    t.box.key('c');
    Talk.same("an undefined key is none", t.box.about(0), steps);
    t.box.key('c');
    Talk.same("a key that is inserted is one", t.box.about(0), 0);
    Talk.same("without cells", t.box.about(2), 0);
    Talk.same("live", t.box.about(1), 2 + 1 + 2 + 2);
    Talk.same("cursor", t.box.about(8), 4);
    t.does("(other-window) (set-buffer \"o\")");
    Talk.same("current", t.box.about(6), 1);
    Talk.same("cursor row", t.box.about(7), 3);
    Talk.same("cursor column", t.box.about(8), 3);
    t.fails("newsymbol", "void-variable: newsymbol");
    Talk.same("symbols", t.box.about(3), 2);
    t.fails("(while t)", "fuel");
    Talk.same("steps", t.box.about(0), 200);
    manyCalls();
    Talk.end();
  }

  /** An object is used for at most 512 calls: they must all be good ones. */
  private static void manyCalls() {
    EditorBox box = new EditorBox(8, 30, 5000, 150);
    for (int i = 0; i < 500; i++) {
      Talk.same("key", box.key('a' + i % 26), 1);
    }
    Talk.same("all there", box.buffer(0, 1), 501);
    Talk.same("records", box.buffer(0, 3), 59);
  }
}
