/** PRIMITIVES, UNDO: 60 records, 2000 signs that are kept, boundaries, and what undo takes back. */
public final class EdgeUndoTest {
  private static final String TEXT_500 = "(setq s \"0123456789\") (setq s (concat s s s s s)) (setq s (concat s s s s s s s s s s))";
  private static final String MANY = "(defun many (n) (while (< 0 n) (setq n (- n 1)) (insert (+ 65 (% n 26)))))";

  public static void main(String[] args) {
    nothingToUndo();
    sixtyRecords();
    theOldestGo();
    aBoundaryThatWouldBeFirst();
    boundariesAtTheEdge();
    twoThousandSigns();
    oneSignMore();
    theRightSigns();
    manyGoAtOnce();
    signsAreFreeAgain();
    neverTwoNorFirst();
    sinceTheLatestBoundary();
    boundaryWithNothingBehind();
    whereWasIt();
    nothingOfItIsRecorded();
    eachBufferItsOwn();
    commandsPutBoundaries();
    Talk.end();
  }

  private static int records(Talk t) {
    return t.box.buffer(0, 3);
  }

  /** NIL if there was nothing. */
  private static void nothingToUndo() {
    Talk t = new Talk();
    t.declines("(undo)");
    t.declines("(progn (boundary) (undo))");
    t.does("(insert \"a\")");
    t.is("(list (undo) (undo))", "(t nil)");
    t.declines("(undo)");
  }

  /** A row of at most 60 RECORDS. */
  private static void sixtyRecords() {
    Talk t = Talk.after(MANY, "(many 59)");
    Talk.same("59", records(t), 59);
    t = Talk.after(MANY, "(many 60)");
    Talk.same("60", records(t), 60);
    t.is("(progn (undo) (point-max))", "2");
    t = Talk.after(MANY, "(many 60) (undo)");
    Talk.same("all 60 were there", t.box.buffer(0, 1), 1);
    Talk.same("none is left", records(t), 0);
    t = Talk.after(MANY, "(many 61) (undo)");
    Talk.same("the oldest of 61 was not", t.box.buffer(0, 1), 2);
    Talk.same("the sign it put", t.box.sign(0, 1), 65 + 60 % 26);
    t = Talk.after(MANY, "(many 61)");
    Talk.same("60", records(t), 60);
    t = Talk.after(MANY, "(many 100) (undo)");
    Talk.same("60 of 100", t.box.buffer(0, 1), 41);
  }

  private static void theOldestGo() {
    Talk t = Talk.after(MANY, "(insert \"abc\") (delete-region 1 3)", "(many 56)");
    // Two, a boundary, 56.
    Talk.same("59", records(t), 59);
    // A boundary is the 60th; for the deletion the first insertion goes.
    t.is("(progn (delete-region 1 2) (list (undo) (point-max) (undo) (region 1 (point-max)) (undo) (region 1 (point-max)) (undo)))",
        "(t 58 t \"c\" t \"abc\" nil)");
    Talk.same("none", records(t), 0);
  }

  /** And a BOUNDARY that comes to be the first. */
  private static void aBoundaryThatWouldBeFirst() {
    Talk t = Talk.after(MANY, "(insert ?a) (boundary) (many 58)");
    Talk.same("I B 58", records(t), 60);
    t = Talk.after(MANY, "(insert ?a) (boundary) (many 59)");
    Talk.same("the oldest and the boundary behind it went", records(t), 59);
    t = Talk.after(MANY, "(insert ?a) (boundary) (many 59) (undo)");
    Talk.same("all 59 at once", t.text(0), "a");
    t.is("(undo)", "nil");
    t = Talk.after(MANY, "(insert ?a) (insert ?b) (boundary) (many 58)");
    Talk.same("the oldest alone", records(t), 60);
    t = Talk.after(MANY, "(insert ?a) (insert ?b) (boundary) (many 59)");
    Talk.same("then the next with the boundary", records(t), 59);
  }

  /** A BOUNDARY is a record, too: it takes room. */
  private static void boundariesAtTheEdge() {
    Talk t = Talk.after(MANY, "(many 60)");
    t.does("");
    Talk.same("60 with the boundary", records(t), 60);
    t.does("(undo)");
    Talk.same("59 were taken back", t.box.buffer(0, 1), 2);
    t = Talk.after(MANY, "(many 59)");
    t.does("");
    Talk.same("60 with the boundary", records(t), 60);
    t.does("(undo)");
    Talk.same("all were taken back", t.box.buffer(0, 1), 1);
    // I B I B ..: thirty of each; one more insertion pushes out a pair.
    t = Talk.after("(defun pairs (n) (while (< 0 n) (setq n (- n 1)) (insert ?p) (boundary)))", "(pairs 30)");
    Talk.same("60", records(t), 60);
    t.does("(insert ?q)");
    Talk.same("58 and one", records(t), 59);
    t.does("");
    Talk.same("60", records(t), 60);
    t.does("(while (undo))");
    Talk.same("the first one stays", t.text(0), "p");
    Talk.same("none", records(t), 0);
  }

  /** Deletions that are kept have at most 2000 signs together. */
  private static void twoThousandSigns() {
    Talk t = Talk.after(TEXT_500, "(insert s s s)", "(delete-region 1 1501)", "(insert s)", "(delete-region 1 501)");
    Talk.same("I B D B I B D", records(t), 7);
    t.does("(undo) (undo) (undo)");
    Talk.same("the first deletion was kept", t.box.buffer(0, 1), 1501);
    Talk.same("records", records(t), 1);
    t = Talk.after(TEXT_500, "(insert s s s) (delete-region 1 1501) (insert s) (delete-region 1 501) (undo)");
    Talk.same("all four were taken back", t.box.buffer(0, 1), 1);
    t.is("(undo)", "nil");
    t = Talk.after(TEXT_500, "(insert s s s) (delete-region 1 1501) (insert s) (delete-region 1 500)");
    Talk.same("1999", records(t), 4);
  }

  private static void oneSignMore() {
    Talk t = Talk.after(TEXT_500, "(insert s s s)", "(delete-region 1 1501)", "(insert s ?x)", "(delete-region 1 502)");
    Talk.same("I, D and the boundary behind it went", records(t), 3);
    t.does("(undo) (undo)");
    Talk.same("back to nothing", t.box.buffer(0, 1), 1);
    t.is("(list (undo) (point-max))", "(nil 1)");
    t = Talk.after(TEXT_500, "(insert s s s) (delete-region 1 1501) (insert s ?x) (delete-region 1 502)");
    Talk.same("I D", records(t), 2);
    t = Talk.after(TEXT_500, "(insert s s s) (delete-region 1 1501) (insert s) (delete-region 1 501) (insert ?x) (delete-region 1 2)");
    Talk.same("2001 signs", records(t), 4);
    t.does("(undo)");
    Talk.same("text", t.box.buffer(0, 1), 1);
  }

  /** The signs of those that are kept stay theirs when others go. */
  private static void theRightSigns() {
    String fill = "(defun fill (n c) (let ((s (concat (string c) (string (+ c 1))))) (while (< (length s) n) (setq s (concat s s))) (insert (substring s 0 n))))";
    Talk t = Talk.after(fill, "(fill 900 97) (delete-region 1 901)", "(fill 800 65) (delete-region 1 801)", "(fill 300 49) (delete-region 1 301)");
    Talk.same("I D B I D B I D", records(t), 8);
    t.does("(insert \"z\") (delete-region 1 2)");
    // With 900 + 800 + 300 kept one more has no room: the first insertion, its deletion and the boundary go.
    Talk.same("I D B I D B I D", records(t), 8);
    t = Talk.after(fill, "(fill 900 97)", "(delete-region 1 901)", "(fill 800 65)", "(delete-region 1 801)", "(fill 300 49)", "(delete-region 1 301)", "(insert \"z\")", "(delete-region 1 2)");
    t.is("(progn (undo) (region 1 (point-max)))", "\"z\"");
    t.is("(progn (undo) (undo) (list (point-max) (region 1 5)))", "(301 \"1212\")");
    t.is("(progn (undo) (undo) (list (point-max) (region 1 5)))", "(801 \"ABAB\")");
    t.is("(list (undo) (point-max) (undo))", "(t 1 nil)");
    // Just 2000 are kept: an insertion needs none of that room.
    t = Talk.after(TEXT_500, "(insert s s s) (delete-region 1 1501) (insert s) (delete-region 1 501) (insert \"x\")");
    Talk.same("five", records(t), 5);
    t.does("(insert \"y\")");
    Talk.same("a boundary and one more", records(t), 7);
  }

  private static void manyGoAtOnce() {
    Talk t = Talk.after(TEXT_500, "(defun bit (n) (while (< 0 n) (setq n (- n 1)) (insert \"0123456789\") (delete-region 1 11)))", "(bit 20)");
    Talk.same("40", records(t), 40);
    t.does("(insert s s s)");
    Talk.same("and a boundary and one", records(t), 42);
    // 200 and 1500 are 1700: there is room for all.
    t.does("(delete-region 1 1501)");
    Talk.same("records", records(t), 44);
    t.does("(insert s s s)");
    // For 1500 more the first 20 deletions go, all up to them, the 1500 and the boundaries behind.
    t.does("(delete-region 1 1501)");
    Talk.same("I B D", records(t), 3);
    t = Talk.after(TEXT_500, "(defun bit (n) (while (< 0 n) (setq n (- n 1)) (insert \"0123456789\") (delete-region 1 11)))", "(bit 20)", "(insert s s s)", "(delete-region 1 1201)",
        "(delete-region 1 301)", "(insert s)");
    Talk.same("40 B I B D B D B I", records(t), 48);
    // 200 + 1500 signs are kept; 400 more are 2100: ten deletions with their insertions go.
    t.does("(delete-region 1 401)");
    Talk.same("20 of them went, a boundary and one came", records(t), 48 - 20 + 2);
  }

  private static void signsAreFreeAgain() {
    Talk t = Talk.after(TEXT_500, "(insert s s s)", "(delete-region 1 1501)", "(undo)", "(delete-region 1 1501)", "(undo)", "(delete-region 1 1001)");
    Talk.same("I B D", records(t), 3);
    t.does("(undo)");
    t.is("(list (point) (point-max))", "(1001 1501)");
    t = Talk.after(TEXT_500, "(insert s s s)", "(delete-region 1 1501)", "(undo)", "(undo)");
    Talk.same("none", records(t), 0);
    Talk.same("empty", t.box.buffer(0, 1), 1);
  }

  /** Never two in a row, nor as the first one. */
  private static void neverTwoNorFirst() {
    Talk t = Talk.after("(boundary)");
    Talk.same("not the first", records(t), 0);
    t.does("(insert ?a) (boundary)");
    Talk.same("I B", records(t), 2);
    t.does("(boundary) (boundary)");
    Talk.same("not two", records(t), 2);
    t.does("");
    t.does("");
    Talk.same("nor by commands", records(t), 2);
    t.does("(insert ?b)");
    Talk.same("I B I", records(t), 3);
    t = Talk.after("(insert ?a)", "(insert ?b)", "(undo) (boundary) (boundary)");
    Talk.same("I B", records(t), 2);
    t = Talk.after("(insert ?a) (undo) (boundary)");
    Talk.same("nor behind all were taken back", records(t), 0);
  }

  /** What was done since the latest boundary that has something behind it, with the records, and that boundary, too. */
  private static void sinceTheLatestBoundary() {
    Talk t = Talk.after("(insert \"a\") (boundary) (insert \"b\") (insert \"c\") (boundary) (insert \"d\")");
    Talk.same("I B I I B I", records(t), 6);
    t.is("(list (undo) (region 1 (point-max)))", "(t \"abc\")");
    // The command's boundary behind d went first, then d, then the boundary ahead of it.
    Talk.same("I B I I", records(t), 4);
    t.is("(list (undo) (region 1 (point-max)))", "(t \"a\")");
    Talk.same("I", records(t), 1);
    t.is("(list (undo) (region 1 (point-max)) (undo))", "(t \"\" nil)");
    Talk.same("none", records(t), 0);
  }

  /** One without anything behind it goes first. */
  private static void boundaryWithNothingBehind() {
    Talk t = Talk.after("(insert \"a\") (boundary)", "(undo)");
    Talk.same("taken back", t.text(0), "");
    Talk.same("none", records(t), 0);
    t = Talk.after("(insert \"a\")", "(goto-char 1)", "(goto-char 2)", "(undo)");
    Talk.same("commands without a deed", t.text(0), "");
    t = Talk.after("(insert \"a\") (boundary) (insert \"b\") (boundary) (undo) (boundary) (undo)");
    Talk.same("both", t.text(0), "");
  }

  /** Point is where the last of them was, behind the signs that come back. */
  private static void whereWasIt() {
    Talk t = Talk.after("(insert \"abcdef\")", "(goto-char 3) (insert \"xy\")", "(goto-char 1)", "(undo)");
    Talk.same("where the insertion was", t.box.buffer(0, 0), 3);
    t = Talk.after("(insert \"abcdef\")", "(delete-region 3 5)", "(goto-char 1)", "(undo)");
    Talk.same("behind what comes back", t.box.buffer(0, 0), 5);
    t = Talk.after("(insert \"abcdef\")", "(delete-region 3 5) (goto-char 1) (insert \"xy\")", "(undo)");
    Talk.same("the last one taken back", t.box.buffer(0, 0), 5);
    t = Talk.after("(insert \"abcdef\")", "(goto-char 4) (insert \"xy\") (delete-region 1 3)", "(goto-char 1) (undo)");
    Talk.same("latest first", t.text(0), "abcdef");
    Talk.same("the last one taken back", t.box.buffer(0, 0), 4);
  }

  /** Nothing of it is recorded; it is MODIFIED. */
  private static void nothingOfItIsRecorded() {
    Talk t = Talk.after("(insert \"abc\")", "(delete-region 1 2)", "(set-modified nil)");
    Talk.same("I B D B", records(t), 4);
    Talk.same("not modified", t.box.buffer(0, 2), 0);
    t.does("(undo)");
    Talk.same("I", records(t), 1);
    Talk.same("modified", t.box.buffer(0, 2), 1);
    t.does("(undo)");
    t.is("(undo)", "nil");
    Talk.same("nothing to take back", t.text(0), "");
    // put-face is not for UNDO.
    t = Talk.after("(insert \"abc\")", "(put-face 1 4 3)");
    Talk.same("I B", records(t), 2);
  }

  private static void eachBufferItsOwn() {
    Talk t = Talk.after(MANY, "(many 60) (set-buffer (buffer \"o\")) (many 3)");
    Talk.same("60", records(t), 60);
    Talk.same("3", t.box.buffer(1, 3), 3);
    t.does("(set-buffer \"o\") (undo)");
    Talk.same("the other one's", t.box.buffer(1, 1), 1);
    Talk.same("stays", t.box.buffer(0, 1), 61);
  }

  /** A command puts a BOUNDARY in the buffer of the selected window. */
  private static void commandsPutBoundaries() {
    Talk t = Talk.after("(insert \"a\") (set-buffer (buffer \"o\")) (insert \"1\")", "(set-buffer \"o\") (insert \"2\")");
    Talk.same("one there", records(t), 2);
    Talk.same("none there", t.box.buffer(1, 3), 2);
    t.does("(set-buffer \"o\") (undo)");
    Talk.same("both at once", t.text(1), "");
    t = new Talk();
    t.keys("abc");
    Talk.same("keys are commands", records(t), 5);
    t.does("(undo)");
    Talk.same("one key", t.text(0), "ab");
    t.box.key(1);
    Talk.same("an undefined one is none", records(t), 3);
    t.does("(define-key global-map \"xy\" 'undo)");
    Talk.same("a boundary", records(t), 4);
    t.box.key('x');
    Talk.same("one that waits is none", records(t), 4);
    t.box.key('y');
    Talk.same("called", t.text(0), "a");
  }
}
