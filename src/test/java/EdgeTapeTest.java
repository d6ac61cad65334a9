/** Promises 2 to 4: the tape, its end, and loading it. */
public final class EdgeTapeTest {
  private static final int BLANKS = 0x20202020;

  public static void main(String[] args) {
    roomForTwelve();
    roomForNone();
    sevenBits();
    orderOfBytes();
    endOfTheTape();
    endOfAFullTape();
    anEmptyTape();
    emptyInAnyCase();
    keysGoOnWaiting();
    oneCommand();
    Talk.end();
  }

  private static Box blanks(int feeds) {
    Box box = new Box(10, 40, 200, 20);
    for (int i = 1; i <= feeds; i++) {
      Talk.same("feed " + i, box.feed(BLANKS, BLANKS, BLANKS, BLANKS, BLANKS), 20 * i);
    }
    return box;
  }

  private static String message(Box box) {
    StringBuilder all = new StringBuilder();
    for (int i = 0; box.message(i) != -1; i++) {
      all.append((char) box.message(i));
    }
    return all.toString();
  }

  /** At most 8192 signs: of twenty bytes as many as there is room for. */
  private static void roomForTwelve() {
    Box box = blanks(409);
    // "(insert ?z)q" has room, "rrrrrrrr" has none.
    Talk.same("twelve of twenty", box.feed(0x28696e73, 0x65727420, 0x3f7a2971, 0x72727272, 0x72727272), 8192);
    Talk.same("about", box.about(10), 8192);
    Talk.same("load", box.load(), 2);
    Talk.same("the 8192nd sign is the last", message(box), "void-variable: q");
    Talk.same("all before it was read", box.sign(0, 1), 'z');
  }

  private static void roomForNone() {
    Box box = blanks(409);
    box.feed(BLANKS, BLANKS, BLANKS, 0x29292929, 0x29292929);
    Talk.same("no room", box.feed(0x29292929, 0x29292929, 0x29292929, 0x29292929, 0x29292929), 8192);
    Talk.same("nothing of it is there", box.load(), 1);
    Talk.same("room again", box.feed(BLANKS, BLANKS, BLANKS, BLANKS, BLANKS), 20);
    box = blanks(409);
    box.end(8172);
    Talk.same("room for just twenty", box.feed(BLANKS, BLANKS, BLANKS, BLANKS, 0x20202029), 8192);
    Talk.same("the twentieth is there", box.load(), 2);
    box = blanks(409);
    box.end(8173);
    Talk.same("room for nineteen", box.feed(BLANKS, BLANKS, BLANKS, BLANKS, 0x20202029), 8192);
    Talk.same("the twentieth is not there", box.load(), 1);
  }

  /** Of a byte that is fed the lowest 7 bits. */
  private static void sevenBits() {
    Box box = new Box(10, 40, 200, 20);
    box.feed(0xa8e9ee, 0xf3e5f2f4, 0xa0bfffa9, 0xa0a0a0a0, 0xa0a0a0a0);
    box.end(20);
    // The first byte is 0: it is a sign, too, and no blank.
    Talk.same("load", box.load(), 2);
    box.feed(0xa8e9eef3, 0xe5f2f4a0, 0xbfffa9a0, 0xa0a0a0a0, 0xa0a0a0a0);
    Talk.same("load", box.load(), 1);
    Talk.same("255 is 127", box.sign(0, 1), 127);
    box.feed(0x28696e73, 0x65727420, 0x3f802920, BLANKS, BLANKS);
    Talk.same("load", box.load(), 1);
    Talk.same("128 is 0", box.sign(0, 2), 0);
  }

  /** Twenty bytes, the highest of a first. */
  private static void orderOfBytes() {
    Box box = new Box(10, 40, 200, 20);
    box.feed(0x28696e73, 0x65727420, 0x22616263, 0x64656667, 0x68692229);
    Talk.same("load", box.load(), 1);
    StringBuilder text = new StringBuilder();
    for (int p = 1; p < 10; p++) {
      text.append((char) box.sign(0, p));
    }
    Talk.same("text", text.toString(), "abcdefghi");
  }

  /** The first n signs alone: true; false if it has fewer, or n is below 0. */
  private static void endOfTheTape() {
    Box box = blanks(2);
    for (int n : new int[] {41, 42, 8192, 8193, Integer.MAX_VALUE, -1, -2, Integer.MIN_VALUE}) {
      Talk.same("end(" + n + ")", box.end(n), false);
      Talk.same("refused, it stays", box.about(10), 40);
    }
    Talk.same("all of them", box.end(40), true);
    Talk.same("stays", box.about(10), 40);
    Talk.same("one less", box.end(39), true);
    Talk.same("has 39", box.about(10), 39);
    Talk.same("that are gone do not come back", box.end(40), false);
    Talk.same("none", box.end(0), true);
    Talk.same("has none", box.about(10), 0);
    Talk.same("none of none", box.end(0), true);
    Talk.same("one of none", box.end(1), false);
    Talk.same("goes on from there", box.feed(BLANKS, BLANKS, BLANKS, BLANKS, BLANKS), 20);
    Box other = new Box(10, 40, 200, 20);
    other.feed(0x31203220, 0x29202020, BLANKS, BLANKS, BLANKS);
    other.end(5);
    Talk.same("the fifth is there", other.load(), 2);
    other.feed(0x31203220, 0x29202020, BLANKS, BLANKS, BLANKS);
    other.end(4);
    Talk.same("the fifth is not there", other.load(), 1);
  }

  private static void endOfAFullTape() {
    Box box = blanks(410 - 1);
    box.feed(BLANKS, BLANKS, BLANKS, BLANKS, BLANKS);
    Talk.same("end(8193)", box.end(8193), false);
    Talk.same("end(8192)", box.end(8192), true);
    Talk.same("end(8191)", box.end(8191), true);
    Talk.same("end(8192)", box.end(8192), false);
    Talk.same("room for one", box.feed(0x29292929, 0x29292929, 0, 0, 0), 8192);
    Talk.same("it is there", box.load(), 2);
  }

  /** An empty one is a command, too. */
  private static void anEmptyTape() {
    Talk t = Talk.after("(insert ?a) (message \"told\") (set-buffer (buffer \"o\"))");
    Talk.same("records", t.box.buffer(0, 3), 1);
    Talk.same("current", t.box.about(6), 1);
    Talk.same("load", t.box.load(), 1);
    Talk.same("the message is empty", t.message(), "");
    Talk.same("it is shown", t.row(11), "");
    Talk.same("a boundary", t.box.buffer(0, 3), 2);
    Talk.same("the window's buffer is current", t.box.about(6), 0);
    Talk.same("no steps", t.box.about(0), 0);
    Talk.same("live: the map", t.box.about(1), 1);
    Talk.same("no cells", t.box.about(2), 0);
    t.does(" \t\r\n;)");
    Talk.same("nothing to read", t.box.about(0), 0);
  }

  private static void emptyInAnyCase() {
    for (String code : new String[] {"1 2 3", "(car 5) 1 2", "1 ) 2", "(", "(while t) 1", "(throw 'a 1) 1"}) {
      Talk t = new Talk();
      t.feed(code);
      Talk.same(code, t.box.about(10), code.length());
      t.box.load();
      Talk.same(code + " is gone", t.box.about(10), 0);
      Talk.same("nothing is left", t.box.load(), 1);
    }
  }

  private static void keysGoOnWaiting() {
    Talk t = Talk.after("(define-key global-map \"ab\" (lambda () (insert \"AB\")))");
    Talk.same("waits", t.box.key('a'), 0);
    Talk.same("message", t.message(), "a");
    Talk.same("an empty one", t.box.load(), 1);
    Talk.same("waits", t.box.about(9), 1);
    Talk.same("the message is empty", t.message(), "");
    t.fails("(car 5)", "wrong-type: 5");
    Talk.same("waits", t.box.about(9), 1);
    Talk.same("called", t.box.key('b'), 1);
    Talk.same("text", t.text(0), "AB");
  }

  /** Thing by thing, as one command, its reading too; what is read later is not read before. */
  private static void oneCommand() {
    Talk t = new Talk(10, 40, 100, 20);
    t.does(Talk.times("1 ", 100));
    t.fails(Talk.times("1 ", 101), "fuel");
    Talk.same("steps", t.box.about(0), 100);
    t.fails("(insert \"ab\") (undo) (insert ?c) )", "read-error");
    Talk.same("what was done stays", t.text(0), "c");
    t.fails("(setq new-one 1) (car 5) never-read", "wrong-type: 5");
    Talk.same("symbols", t.box.about(3), 1);
    t.does("(setq new-one 1) (intern \"made\") 'read");
    Talk.same("symbols", t.box.about(3), 3);
  }
}
