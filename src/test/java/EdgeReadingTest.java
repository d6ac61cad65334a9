/** Terms, READING: where it can't be so, and its limits. */
public final class EdgeReadingTest {
  public static void main(String[] args) {
    passedOver();
    endsTooEarly();
    parensAndDots();
    dots();
    names();
    signs();
    strings();
    tokens();
    sixtyInEachOther();
    besideEachOther();
    longStrings();
    orderOfLooks();
    whatStays();
    Talk.end();
  }

  private static void refused(String code) {
    Talk t = new Talk();
    t.refuses(code, "read-error");
    Talk.same(code + ": no steps", t.box.about(0), 0);
  }

  /** 9, 10, 13, 32, and what is behind ; up to a line end. */
  private static void passedOver() {
    Talk t = new Talk();
    t.is("'(a\tb\nc\rd e)", "(a b c d e)");
    t.is("'(a;b\nc;d\re;f)\n)", "(a c e)");
    t.is("(length '(a;;b\n;\n;\r))", "1");
    for (int sign : new int[] {0, 8, 11, 12, 14, 31, 33, 127}) {
      t = new Talk();
      t.is("(length '(a" + (char) sign + "b))", "1");
    }
    for (int sign : new int[] {9, 10, 13, 32}) {
      t = new Talk();
      t.is("(length '(a" + (char) sign + "b))", "2");
    }
    new Talk().does(";");
    new Talk().does("; only ( \" ' ) a remark");
    new Talk().does("1;");
    // A remark goes up to 10 or 13, no other sign ends it.
    new Talk().does("; a\t\0\014 )");
    new Talk().fails("; a\n)", "read-error");
    new Talk().fails("; a\r)", "read-error");
  }

  private static void endsTooEarly() {
    for (String code : new String[] {"(", "((", "(()", "(a", "(a ", "(a ;)", "'", "''", "' ", "';a", "(a . ", "(a .", "(a . b", "(a . b ", "\"", "\"a",
        "\"a\\", "\"a\\\"", "\"\\", "?", "?\\", "'?", "(?", "(\"a\" \"b", "'(a '", "(a '(b)"}) {
      refused(code);
    }
  }

  private static void parensAndDots() {
    for (String code : new String[] {")", "())", "'())", "')", "(')", "(a ')", ".", " . ", "'.", "' . a", "(.)", "(. a)", "( . a)", "(a . )", "(a .)",
        "(a . . b)", "(a . b . c)", "(a . b c)", "(a . b (c))", "(a . b \"c\")", "(a . b 'c)", "(a . b ?c)", "(a . b .)", "(a . '.)", "(a . ')", "('. a)",
        "(a (. b))", "((a) . )", "(() . () ())", ".;", ".(a)", ".\"a\"", "?a)"}) {
      Talk t = new Talk();
      // What was read whole ahead of it is evaluated: () and '() are NIL, ?a an INT.
      t.fails(code, "read-error");
      Talk.same(code + " changed nothing", t.text(0), "");
    }
  }

  /** In a list, behind something, . and one thing and ). */
  private static void dots() {
    Talk t = new Talk();
    t.is("'(a . b)", "(a . b)");
    t.is("'(a .b c. .. ...)", "(a .b c. .. ...)");
    t.is("'(a .(b))", "(a b)");
    t.is("'(a .\"b\")", "(a . \"b\")");
    t.is("'(a .'b)", "(a quote b)");
    t.is("'(a .;c\nb)", "(a . b)");
    t.is("'(a . b;c\n)", "(a . b)");
    t.is("'(a . ?b)", "(a . 98)");
    t.is("'(() . ())", "(nil)");
    t.is("'((a . b) . (c . d))", "((a . b) c . d)");
    t.is("'(a . nil)", "(a)");
    t.is("'(a. b)", "(a. b)");
    t.is("'(?. . ?.)", "(46 . 46)");
    t.is("'(1 . -1)", "(1 . -1)");
  }

  /** A name of more than 24 signs; digits may be more. */
  private static void names() {
    String most = "abcdefghijklmnopqrstuvwx";
    new Talk().fails(most, "void-variable: " + most);
    refused(most + "y");
    refused("(" + most + "y)");
    refused("'" + most + most + most);
    refused("(1 . " + most + "y)");
    new Talk().is("'" + most, most);
    new Talk().is("'(" + most + " " + most + ")", "(" + most + " " + most + ")");
    Talk t = new Talk();
    t.fails("'" + most + "y", "read-error");
    Talk.same("no symbol", t.box.about(3), 0);
    new Talk().is("'1234567890123456789012345", "" + wrapped("1234567890123456789012345"));
    new Talk().is("'-1234567890123456789012345", "" + -wrapped("1234567890123456789012345"));
    refused("'1234567890123456789012345a");
    refused("'--234567890123456789012345");
    new Talk().is("'-" + Talk.times("1", 22) + "a", "-" + Talk.times("1", 22) + "a");
    refused("'-" + Talk.times("1", 23) + "a");
  }

  private static int wrapped(String digits) {
    int n = 0;
    for (int i = 0; i < digits.length(); i++) {
      n = (n * 10 + digits.charAt(i) - '0') << 4 >> 4;
    }
    return n;
  }

  /** ? and a sign, \ as in strings. */
  private static void signs() {
    Talk t = new Talk();
    t.is("'(?\\n ?\\t ?\\\\ ?\\\" ?\\( ?\\N ?n ?\" ?; ?' ?? ?  ?( ?))", "(10 9 92 34 40 78 110 34 59 39 63 32 40 41)");
    t.is("'(?\0 ?\177 ?\n ?\\\0)", "(0 127 10 0)");
    t.is("'(?ab ?a?b ?a(b))", "(97 b 97 98 97 (b))");
    t.is("'(a? b?c -? 1?)", "(a? b?c -? 1?)");
  }

  /** A string up to "; in it \ and a sign: n 10, t 9, any other itself. */
  private static void strings() {
    Talk t = new Talk();
    t.is("\"\\n\\t\\\\\\\"\\a\\(\"", "\"\n\t\\\\\\\"a(\"");
    t.is("(list \"a\"\"b\")", "(\"a\" \"b\")");
    t.is("\"a;b(c')\"", "\"a;b(c')\"");
    t.is("\"a\nb\"", "\"a\nb\"");
    t.is("(list (sign \"\\\0\" 0) (sign \"\177\" 0) (length \"\\\n\"))", "(0 127 1)");
  }

  /** Up to a blank, or ( ) ' " ; : digits with or without a - an INT, all else a symbol. */
  private static void tokens() {
    Talk t = new Talk();
    t.is("'(a(b)c'd\"e\"f;g\nh)", "(a (b) c 'd \"e\" f h)");
    t.is("'(1(2)3'4\"5\"6;7\n8)", "(1 (2) 3 '4 \"5\" 6 8)");
    t.is("(mapcar 'intp '(1 -1 007 - -- 1- +1 -a 1a --1 1.0 \\1))", "(t t t nil nil nil nil nil nil nil nil nil)");
    t.is("(mapcar 'symbolp '(a:b : :a #a @ \\a [a] {a} |a| ,a `a a\001b))", "(t t t t t t t t t t t t)");
    t.is("'NIL", "NIL");
  }

  /** More than 60 lists and ' in each other. */
  private static void sixtyInEachOther() {
    String open = Talk.times("(", 60);
    String close = Talk.times(")", 60);
    new Talk().fails(open + "5" + close, "void-function: " + Talk.times("(", 59) + "5" + Talk.times(")", 59));
    refused("(" + open + "5" + close + ")");
    refused("(" + open);
    new Talk().does(Talk.times("'", 60) + "a");
    refused(Talk.times("'", 61) + "a");
    new Talk().does("'" + Talk.times("(", 58) + "'a" + Talk.times(")", 58));
    new Talk().does("'" + Talk.times("(", 59) + "a" + Talk.times(")", 59));
    refused("'" + Talk.times("(", 59) + "'a" + Talk.times(")", 59));
    new Talk().does(Talk.times("'(", 30) + Talk.times(")", 30));
    refused(Talk.times("'(", 30) + "'a" + Talk.times(")", 30));
    refused(Talk.times("'(", 30) + "()" + Talk.times(")", 30));
    new Talk().does("'" + Talk.times("(a . ", 59) + "b" + Talk.times(")", 59));
    refused("'" + Talk.times("(a . ", 60) + "b" + Talk.times(")", 60));
    // Strings and signs are neither.
    new Talk().does("'" + Talk.times("(", 59) + "\"((((\" ?( ; ((('\n 5" + Talk.times(")", 59));
  }

  private static void besideEachOther() {
    new Talk().is("(length '(" + Talk.times("() ", 100) + "))", "100");
    new Talk().is("(length '(" + Talk.times("'a ", 100) + "))", "100");
    new Talk().does(Talk.times("'a ", 100) + Talk.times("'(b) ", 100));
    // Behind one that is closed there is room for another.
    String deep = Talk.times("(", 58) + Talk.times(")", 58);
    new Talk().does("'(" + deep + deep + "'" + deep.substring(1, 115) + ")");
    refused("'(" + deep + "'" + deep + ")");
  }

  /** A string of more than 2000 signs: too-long NIL, looked at behind its end. */
  private static void longStrings() {
    new Talk().does("\"" + Talk.times("x", 2000) + "\"");
    new Talk().refuses("\"" + Talk.times("x", 2001) + "\"", "too-long");
    new Talk().refuses("\"" + Talk.times("x", 7000) + "\"", "too-long");
    refused("\"" + Talk.times("x", 2001));
    refused("\"" + Talk.times("x", 2001) + "\\\"");
    new Talk().refuses("(\"" + Talk.times("x", 2001) + "\"", "too-long");
    new Talk().refuses("\"" + Talk.times("x", 2001) + "\")", "too-long");
    Talk t = new Talk();
    t.fails("\"" + Talk.times("x", 2001) + "\"", "too-long");
    Talk.same("no cells", t.box.about(2), 0);
    // \ and a sign is one.
    new Talk().does("\"" + Talk.times("\\x", 2000) + "\"");
    new Talk().refuses("\"" + Talk.times("\\x", 2001) + "\"", "too-long");
  }

  /** Each thing is looked at where it stands: what comes first is told. */
  private static void orderOfLooks() {
    String most = "abcdefghijklmnopqrstuvwx";
    Talk t = new Talk();
    t.fails("(new1 . new2 new3)", "read-error");
    Talk.same("behind the last cdr nothing is read", t.box.about(3), 2);
    t = new Talk();
    t.fails("(new1 " + most + "y new2)", "read-error");
    Talk.same("nor behind a name too long", t.box.about(3), 1);
    t = new Talk();
    t.fails("(new1 (new2 . ) new3)", "read-error");
    Talk.same("nor behind a ) that can't be", t.box.about(3), 2);
    t = new Talk();
    t.fails("new1 ) new2", "void-variable: new1");
    Talk.same("what is read later is not read before", t.box.about(3), 1);
  }

  /** Symbols that were read stay, and so do what was evaluated before and the cells of whole things. */
  private static void whatStays() {
    Talk t = new Talk();
    t.fails("(insert \"a\") (new1 new2", "read-error");
    Talk.same("text", t.text(0), "a");
    Talk.same("symbols", t.box.about(3), 2);
    Talk.same("cells", t.box.about(2), 2 + 2);
    t = new Talk();
    t.fails("((1 2) (3 4", "read-error");
    Talk.same("cells", t.box.about(2), 2);
    Talk.same("steps", t.box.about(0), 0);
    t.does("");
    Talk.same("they are not reached", t.box.about(1), 1);
    t.is("(condition-case e (eval '(car 5)) (error e))", "(wrong-type . 5)");
    // Nothing on the tape can handle what reading meets.
    t.fails("(condition-case nil (car 5) (error 1)", "read-error");
  }
}
