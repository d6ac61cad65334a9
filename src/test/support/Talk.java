/** What the tests share: talking to an EditorBox in text, and counting what is not as due. */
final class Talk {
  private static int wrong = 0;
  final Box box;

  Talk(int rows, int columns, int fuel, int depth) {
    box = new Box(rows, columns, fuel, depth);
  }

  Talk() {
    this(12, 40, 5000, 150);
  }

  /** A new object on which some loads went well. */
  static Talk after(String... codes) {
    Talk t = new Talk();
    for (String code : codes) {
      t.does(code);
    }
    return t;
  }

  /** Gives the symbol big a list of 4096 zeros; it takes 4096 cells. */
  void makeBig() {
    does("(setq big '(0)) (let ((n 0)) (while (< n 11) (setq n (+ n 1) big (append big big))))");
    does("(setq big (append big big))");
  }

  /** Puts a text behind the tape. */
  void feed(String text) {
    int had = box.about(10);
    for (int i = 0; i < text.length(); i += 20) {
      box.feed(four(text, i), four(text, i + 4), four(text, i + 8), four(text, i + 12), four(text, i + 16));
    }
    box.end(Math.min(8192, had + text.length()));
  }

  private static int four(String text, int at) {
    int all = 0;
    for (int i = at; i < at + 4; i++) {
      all = all << 8 | (i < text.length() ? text.charAt(i) & 255 : ' ');
    }
    return all;
  }

  int load(String text) {
    feed(text);
    return box.load();
  }

  void keys(String keys) {
    for (int i = 0; i < keys.length(); i++) {
      box.key(keys.charAt(i));
    }
  }

  String message() {
    StringBuilder all = new StringBuilder();
    for (int i = 0; box.message(i) != EditorBox.NONE; i++) {
      all.append((char) box.message(i));
    }
    return all.toString();
  }

  String text(int b) {
    StringBuilder all = new StringBuilder();
    for (int p = 1; box.sign(b, p) != EditorBox.NONE; p++) {
      all.append((char) box.sign(b, p));
    }
    return all.toString();
  }

  /** A row of the grid without the spaces at its end. */
  String row(int row) {
    StringBuilder all = new StringBuilder();
    for (int c = 0; box.shown(row, c) != EditorBox.NONE; c++) {
      all.append((char) (box.shown(row, c) % 128));
    }
    while (all.length() > 0 && all.charAt(all.length() - 1) == ' ') {
      all.setLength(all.length() - 1);
    }
    return all.toString();
  }

  /** The faces of a row's first columns, a digit each. */
  String faces(int row, int columns) {
    StringBuilder all = new StringBuilder();
    for (int c = 0; c < columns; c++) {
      all.append(box.shown(row, c) / 128);
    }
    return all.toString();
  }

  /** The code goes well and its value is printed so. */
  void is(String code, String want) {
    int answer = load("(message (print " + code + "))");
    same(code, answer + " " + message(), "1 " + want);
  }

  /** The code ends by an error with that message. */
  void fails(String code, String want) {
    int answer = load(code);
    same(code, answer + " " + message(), "2 " + want);
  }

  /** The code goes well. */
  void does(String code) {
    int answer = load(code);
    same(code, answer + (answer == 1 ? "" : " " + message()), "1");
  }

  /** All that can be asked, but for the message, steps, cells, symbols and the buffer that is current. */
  String state() {
    StringBuilder all = new StringBuilder();
    for (int b = 0; b < box.about(4); b++) {
      all.append(text(b));
      for (int what = 0; what < 5; what++) {
        all.append(' ').append(box.buffer(b, what));
      }
    }
    for (int k = 0; k < box.about(5); k++) {
      for (int what = 0; what < 8; what++) {
        all.append(' ').append(box.window(k, what));
      }
    }
    for (int what : new int[] {4, 5, 7, 8, 9, 10, 11}) {
      all.append(" about ").append(box.about(what));
    }
    for (int row = 0; box.shown(row + 1, 0) != EditorBox.NONE; row++) {
      for (int column = 0; box.shown(row, column) != EditorBox.NONE; column++) {
        all.append(' ').append(box.shown(row, column));
      }
    }
    return all.toString();
  }

  /** The code ends by an error with that message and has changed nothing. */
  void refuses(String code, String want) {
    does("");
    String was = state();
    fails(code, want);
    same(code + " changed something", state(), was);
  }

  /** The code answers NIL and has changed nothing. */
  void declines(String code) {
    does("");
    String was = state();
    is(code, "nil");
    same(code + " changed something", state(), was);
  }

  static void same(String what, boolean got, boolean want) {
    same(what, got ? "true" : "false", want ? "true" : "false");
  }

  static void same(String what, long got, long want) {
    if (got != want) {
      wrong++;
      System.out.println(what + " answered " + got + ", due is " + want);
    }
  }

  static void same(String what, String got, String want) {
    if (!got.equals(want)) {
      wrong++;
      System.out.println(what + " answered [" + got + "], due is [" + want + "]");
    }
  }

  static String times(String text, int n) {
    return text.repeat(n);
  }

  static void end() {
    System.out.println(wrong == 0 ? "all answers are as due" : wrong + " answers are not as due");
    if (wrong != 0) {
      System.exit(1);
    }
  }
}
