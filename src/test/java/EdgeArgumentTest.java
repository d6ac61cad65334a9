/** PRIMITIVES: number, kinds and range of what they are called with, for each of them. */
public final class EdgeArgumentTest {
  /**
   * Each primitive with its kinds: v any value, i INT, s string, y symbol, l proper list, n any list, c cons, m marker, b buffer,
   * p place, q proper list or string, g string or INT 0 .. 127; a great letter may be missing or NIL; * any number more.
   */
  private static final String[] TABLE = ("cons:vv car:n cdr:n setcar:cv setcdr:cv list:* nth:in nthcdr:in length:q reverse:l append:lv memq:vl member:vl"
      + " assq:vl assoc:vl mapcar:vl eq:vv equal:vv null:v consp:v symbolp:v intp:v stringp:v +:i* *:i* -:ii* /:ii %:ii <:ii >:ii =:ii logand:ii logior:ii"
      + " shift:ii set:yv symbol-value:y boundp:y fset:yv symbol-function:y symbol-name:y intern:s funcall:v* apply:vl eval:v throw:vv signal:yv error:s"
      + " concat:s* substring:sii string=:ss string<:ss sign:si string:i number:s print:v buffer:s set-buffer:b current-buffer: buffer-name:b point: point-max:"
      + " goto-char:p insert:g* delete-region:pp char-after:P char-before:P region:pp bolp: eolp: forward-char:I forward-line:I beginning-of-line: end-of-line:"
      + " search-forward:sV search-backward:sV skip-forward:s column: line: marker:p set-marker:mp marker-place:m marker-moves:mv put-face:ppi face:p undo:"
      + " boundary: modified: set-modified:v make-map: define-key:vsv lookup-key:vs use-map:v split-below: split-right: other-window: delete-window:"
      + " delete-other-windows: show-buffer:b window-start: set-window-start:p message:s").split(" ");

  public static void main(String[] args) {
    Talk.same("all primitives", TABLE.length, 101);
    for (String entry : TABLE) {
      int colon = entry.lastIndexOf(':');
      numbers(entry.substring(0, colon), entry.substring(colon + 1));
      kinds(entry.substring(0, colon), entry.substring(colon + 1));
      ranges(entry.substring(0, colon), entry.substring(colon + 1));
    }
    firstOnes();
    orderOfLooks();
    anyNumber();
    missingOrNil();
    throughOtherCalls();
    Talk.end();
  }

  /** Text in main and in another buffer, a marker of each; main is current. */
  private static Talk desk() {
    Talk t = Talk.after("(insert \"abcd\") (goto-char 3) (setq m (marker 2) b (current-buffer) c (list 1 2))",
        "(set-buffer (buffer \"o\")) (insert \"12345678\") (setq far (marker 5))");
    t.does("");
    return t;
  }

  private static String good(char kind) {
    switch (kind) {
      case 'i': return "1";
      case 's': return "\"a\"";
      case 'y': return "'c";
      case 'l': case 'n': case 'c': case 'q': return "c";
      case 'm': return "m";
      case 'b': return "b";
      case 'p': return "2";
      case 'g': return "\"a\"";
      default: return "nil";
    }
  }

  private static String[] bad(char kind) {
    switch (kind) {
      case 'i': return new String[] {"nil", "t", "\"1\"", "c", "m", "b"};
      case 's': return new String[] {"nil", "97", "'c", "c", "m", "b"};
      case 'y': return new String[] {"1", "\"c\"", "c", "m", "b"};
      case 'l': return new String[] {"1", "t", "\"a\"", "m", "b", "'(1 . 2)"};
      case 'n': return new String[] {"1", "t", "\"a\"", "m", "b"};
      case 'c': return new String[] {"nil", "1", "t", "\"a\"", "m", "b"};
      case 'q': return new String[] {"1", "t", "m", "b", "'(1 . 2)"};
      case 'm': return new String[] {"nil", "1", "\"a\"", "c", "b", "'m"};
      case 'b': return new String[] {"nil", "0", "'main", "\"nosuch\"", "\"\"", "\"mai\"", "\"mainn\"", "\"abcdefghijklmnopqrstuvwxy\"", "c", "m"};
      case 'p': return new String[] {"nil", "t", "\"1\"", "c", "b", "far"};
      case 'P': return new String[] {"t", "\"1\"", "c", "b", "far"};
      case 'I': return new String[] {"t", "\"1\"", "c", "b", "m"};
      case 'g': return new String[] {"nil", "-1", "128", "134217727", "-134217728", "'c", "c", "m", "b"};
      default: return new String[0];
    }
  }

  private static String printed(String value) {
    switch (value) {
      case "nil": return "";
      case "c": return ": (1 2)";
      case "m": case "far": return ": #marker";
      case "b": return ": #buffer main";
      default: return ": " + (value.startsWith("'") ? value.substring(1) : value);
    }
  }

  /** The values for so many arguments; behind the last kind it goes on with the one before *. */
  private static String values(String kinds, int n) {
    StringBuilder all = new StringBuilder();
    String single = kinds.replace("*", "");
    for (int i = 0; i < n; i++) {
      char kind = single.isEmpty() ? 'v' : single.charAt(Math.min(i, single.length() - 1));
      all.append(' ').append(good(kind));
    }
    return all.toString();
  }

  private static int least(String kinds) {
    int n = 0;
    for (char kind : kinds.toCharArray()) {
      n += kind >= 'a' ? 1 : 0;
    }
    return kinds.equals("i*") || kinds.equals("s*") || kinds.equals("g*") ? 0 : kinds.equals("ii*") ? 1 : n;
  }

  /** First error wrong-number-of-args the primitive's symbol. */
  private static void numbers(String word, String kinds) {
    boolean any = kinds.endsWith("*");
    int least = least(kinds);
    int most = kinds.length();
    if (least > 0) {
      desk().refuses("(" + word + values(kinds, least - 1) + ")", "wrong-number-of-args: " + word);
    }
    for (int n = least; n <= (any ? least + 3 : most); n++) {
      Talk t = desk();
      t.load("(" + word + values(kinds, n) + ")");
      Talk.same(word + " takes " + n, t.message().startsWith("wrong-number-of-args"), false);
    }
    if (!any) {
      desk().refuses("(" + word + values(kinds, most) + " 1)", "wrong-number-of-args: " + word);
      desk().refuses("(" + word + values(kinds, most) + " nil)", "wrong-number-of-args: " + word);
    }
  }

  /** Then error wrong-type the first argument that is not of its kind. */
  private static void kinds(String word, String kinds) {
    String single = kinds.replace("*", "");
    for (int i = 0; i < single.length(); i++) {
      for (String value : bad(single.charAt(i))) {
        Talk t = desk();
        t.refuses("(" + word + values(single, i) + " " + value + tail(single, i) + ")", "wrong-type" + printed(value));
      }
    }
  }

  private static String tail(String single, int i) {
    StringBuilder all = new StringBuilder();
    for (int k = i + 1; k < single.length(); k++) {
      all.append(' ').append(good(single.charAt(k)));
    }
    return all.toString();
  }

  /** Then p's range: 1 .. the end. */
  private static void ranges(String word, String kinds) {
    for (int i = 0; i < kinds.length(); i++) {
      if (kinds.charAt(i) == 'p' || kinds.charAt(i) == 'P') {
        for (String place : new String[] {"0", "6", "-1", "134217727", "-134217728"}) {
          desk().refuses("(" + word + values(kinds, i) + " " + place + tail(kinds, i) + ")", "out-of-range: " + place);
        }
        for (String place : new String[] {"1", "5", "m"}) {
          desk().does("(" + word + values(kinds, i) + " " + place + tail(kinds, i) + ")");
        }
      }
    }
  }

  private static void firstOnes() {
    desk().refuses("(substring 1 'x 'y)", "wrong-type: 1");
    desk().refuses("(substring \"a\" 'x 'y)", "wrong-type: x");
    desk().refuses("(+ 1 2 'x 'y)", "wrong-type: x");
    desk().refuses("(concat \"a\" 'x 'y)", "wrong-type: x");
    desk().refuses("(insert \"a\" 'x 'y)", "wrong-type: x");
    desk().refuses("(delete-region far 'x)", "wrong-type: #marker");
    desk().refuses("(put-face 6 0 9)", "out-of-range: 6");
    desk().refuses("(put-face 5 0 9)", "out-of-range: 0");
    desk().refuses("(put-face 5 1 9)", "out-of-range: 9");
    desk().refuses("(delete-region 6 0)", "out-of-range: 6");
    desk().refuses("(region 0 6)", "out-of-range: 0");
  }

  /** Number, then kinds, then range. */
  private static void orderOfLooks() {
    desk().refuses("(car 1 2)", "wrong-number-of-args: car");
    desk().refuses("(goto-char 'x 'y)", "wrong-number-of-args: goto-char");
    desk().refuses("(delete-region 0)", "wrong-number-of-args: delete-region");
    desk().refuses("(delete-region 0 'x)", "wrong-type: x");
    desk().refuses("(put-face 0 0 'x)", "wrong-type: x");
    desk().refuses("(put-face 0 1 9)", "out-of-range: 0");
    desk().refuses("(set-marker 5 0)", "wrong-type: 5");
    desk().refuses("(define-key 5 6 7)", "wrong-type: 6");
    desk().refuses("(define-key 5 \"\" 7)", "wrong-type: 5");
    desk().refuses("(define-key global-map \"\" 7)", "out-of-range: \"\"");
    desk().refuses("(insert \"" + Talk.times("x", 1500) + "\" 128)", "wrong-type: 128");
  }

  /** v.. any number: as many as there are steps, or things of a list. */
  private static void anyNumber() {
    Talk t = new Talk();
    t.is("(+" + Talk.times(" 1", 1000) + ")", "1000");
    t.is("(length (list" + Talk.times(" 1", 1000) + "))", "1000");
    t = new Talk();
    t.makeBig();
    t.is("(apply '+ big)", "0");
    t.does("(apply 'insert (nthcdr 2596 big))");
    Talk.same("1500 arguments", t.box.buffer(0, 1), 1501);
    t.fails("(apply 'insert big)", "buffer-full");
    t.fails("(apply 'car big)", "wrong-number-of-args: car");
    t.fails("(apply 'concat big)", "wrong-type: 0");
    t.is("(list (+) (*) (concat) (list) (insert))", "(0 1 \"\" nil nil)");
    t.fails("(-)", "wrong-number-of-args: -");
    t.fails("(funcall)", "wrong-number-of-args: funcall");
  }

  /** In [ ] what may be missing or NIL. */
  private static void missingOrNil() {
    Talk t = desk();
    t.is("(list (char-after) (char-after nil) (char-before) (char-before nil))", "(99 99 98 98)");
    t.is("(list (forward-char) (point) (forward-char nil) (point))", "(nil 4 nil 5)");
    t.is("(progn (goto-char 1) (insert \"\n\n\") (goto-char 1) (list (forward-line) (point) (forward-line nil) (point)))", "(0 2 0 3)");
    t.refuses("(search-forward \"nosuch\")", "search-failed: \"nosuch\"");
    t.refuses("(search-forward \"nosuch\" nil)", "search-failed: \"nosuch\"");
    t.refuses("(search-backward \"nosuch\")", "search-failed: \"nosuch\"");
    t.refuses("(search-backward \"nosuch\" nil)", "search-failed: \"nosuch\"");
    t.declines("(search-forward \"nosuch\" t)");
    t.declines("(search-forward \"nosuch\" 0)");
    t.declines("(search-backward \"nosuch\" \"\")");
  }

  /** The same looks by funcall, apply, mapcar, and a name that was given the function. */
  private static void throughOtherCalls() {
    desk().refuses("(funcall 'car)", "wrong-number-of-args: car");
    desk().refuses("(apply 'car '(1))", "wrong-type: 1");
    desk().refuses("(mapcar 'goto-char '(9))", "out-of-range: 9");
    desk().refuses("(fset 'first 'car) (first)", "wrong-number-of-args: car");
    desk().refuses("(fset 'first 'car) (funcall 'first 1 2)", "wrong-number-of-args: car");
    desk().refuses("(mapcar 'cons '(1))", "wrong-number-of-args: cons");
  }
}
