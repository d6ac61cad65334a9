/** What the tests share: talking to an EditorBox in text, and counting what is not as due. */
final class Talk {
  private static int wrong = 0;
  final EditorBox box;

  Talk(int rows, int columns, int fuel, int depth) {
    box = new EditorBox(rows, columns, fuel, depth);
  }

  Talk() {
    this(12, 40, 5000, 150);
  }

  /** Puts a text behind the tape. */
  void feed(String text) {
    int had = box.about(10);
    for (int i = 0; i < text.length(); i += 20) {
      box.feed(four(text, i), four(text, i + 4), four(text, i + 8), four(text, i + 12), four(text, i + 16));
    }
    box.end(Math.min(8192, had + text.length()));
  }

  private static int four(String text, int at) {
    int all = 0;
    for (int i = at; i < at + 4; i++) {
      all = all << 8 | (i < text.length() ? text.charAt(i) & 255 : ' ');
    }
    return all;
  }

  int load(String text) {
    feed(text);
    return box.load();
  }

  void keys(String keys) {
    for (int i = 0; i < keys.length(); i++) {
      box.key(keys.charAt(i));
    }
  }

  String message() {
    StringBuilder all = new StringBuilder();
    for (int i = 0; box.message(i) != EditorBox.NONE; i++) {
      all.append((char) box.message(i));
    }
    return all.toString();
  }

  String text(int b) {
    StringBuilder all = new StringBuilder();
    for (int p = 1; box.sign(b, p) != EditorBox.NONE; p++) {
      all.append((char) box.sign(b, p));
    }
    return all.toString();
  }

  /** A row of the grid without the spaces at its end. */
  String row(int row) {
    StringBuilder all = new StringBuilder();
    for (int c = 0; box.shown(row, c) != EditorBox.NONE; c++) {
      all.append((char) (box.shown(row, c) % 128));
    }
    while (all.length() > 0 && all.charAt(all.length() - 1) == ' ') {
      all.setLength(all.length() - 1);
    }
    return all.toString();
  }

  /** The faces of a row's first columns, a digit each. */
  String faces(int row, int columns) {
    StringBuilder all = new StringBuilder();
    for (int c = 0; c < columns; c++) {
      all.append(box.shown(row, c) / 128);
    }
    return all.toString();
  }

  /** The code goes well and its value is printed so. */
  void is(String code, String want) {
    int answer = load("(message (print " + code + "))");
    same(code, answer + " " + message(), "1 " + want);
  }

  /** The code ends by an error with that message. */
  void fails(String code, String want) {
    int answer = load(code);
    same(code, answer + " " + message(), "2 " + want);
  }

  /** The code goes well. */
  void does(String code) {
    int answer = load(code);
    same(code, answer + (answer == 1 ? "" : " " + message()), "1");
  }

  static void same(String what, long got, long want) {
    if (got != want) {
      wrong++;
      System.out.println(what + " answered " + got + ", due is " + want);
    }
  }

  static void same(String what, String got, String want) {
    if (!got.equals(want)) {
      wrong++;
      System.out.println(what + " answered [" + got + "], due is [" + want + "]");
    }
  }

  static String times(String text, int n) {
    return text.repeat(n);
  }

  static void end() {
    System.out.println(wrong == 0 ? "all answers are as due" : wrong + " answers are not as due");
    if (wrong != 0) {
      System.exit(1);
    }
  }
}
