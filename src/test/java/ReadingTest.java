/** Promise 4: reading. */
public final class ReadingTest {
  public static void main(String[] args) {
    things();
    errors();
    limits();
    whenItIsRead();
    Talk.end();
  }

  private static void things() {
    Talk t = new Talk();
    t.is("'(a . b)", "(a . b)");
    t.is("'(a b . c)", "(a b . c)");
    t.is("'(a . (b . (c . nil)))", "(a b c)");
    t.is("'()", "nil");
    t.is("'( a;remark )\n b ; another \r c\t)", "(a b c)");
    t.is("'(1 -1 - -a +1 1a 007 -007 1.5 .5 a.b ...)", "(1 -1 - -a +1 1a 7 -7 1.5 .5 a.b ...)");
    t.is("'(134217727 134217728 -134217728 -134217729 268435456 1000000000000)", "(134217727 -134217728 -134217728 134217727 0 77926400)");
    t.is("'(?a ?\\n ?\\t ?\\\\ ?\\a ?( ? ?;?)?')", "(97 10 9 92 97 40 32 59 41 39)");
    t.is("'(a?b ?bc)", "(a?b 98 c)");
    t.is("\"a\\n\\t\\\\\\\"\\b\"", "\"a\n\t\\\\\\\"b\"");
    t.is("(length \"\")", "0");
    t.is("''a", "'a");
    t.is("'' a", "'a");
    t.is("'('a 'b)", "('a 'b)");
    t.is("'(a'b\"c\"d(e)f;g\n)", "(a 'b \"c\" d (e) f)");
    t.is("'(a:b :c d:)", "(a:b :c d:)");
    t.is("(symbol-name '\001\177x)", "\"\001\177x\"");
    t.is("'(quote a b)", "(quote a b)");
    t.is("'(quote . a)", "(quote . a)");
    t.is("(eq 'nil '())", "t");
    Talk.same("nothing at all", t.load(""), 1);
    Talk.same("only blanks", t.load(" \n\t\r ; x"), 1);
  }

  private static void errors() {
    Talk t = new Talk();
    for (String code : new String[] {"(", ")", "(a", "(a . ", "(a . b", "(. a)", "(a . )", "(a . b c)", "(a . b . c)", "(a .. b) . c",
        ".", "'", "')", "'.", "(a '. b)", "(a ')", "\"a", "\"a\\", "?", "?\\", "(a . 'b c)", "( . )", "(()", "'(a", "(a.b . )"}) {
      t.fails(code.equals("(a .. b) . c") ? "'(a .. b) . c" : code, "read-error");
    }
    t.fails("abcdefghijklmnopqrstuvwxy", "read-error");
    t.is("'abcdefghijklmnopqrstuvwx", "abcdefghijklmnopqrstuvwx");
    t.is("1111111111111111111111111111111111", "" + wrapped(34));
  }

  private static int wrapped(int ones) {
    int n = 0;
    for (int i = 0; i < ones; i++) {
      n = (n * 10 + 1) << 4 >> 4;
    }
    return n;
  }

  private static void limits() {
    Talk t = new Talk();
    t.does("'" + Talk.times("(", 59) + Talk.times(")", 59));
    t.fails("'" + Talk.times("(", 60) + Talk.times(")", 60), "read-error");
    t.fails(Talk.times("'", 61) + "a", "read-error");
    t.does(Talk.times("'", 60) + "a");
    t.does("(length \"" + Talk.times("x", 2000) + "\")");
    t.fails("\"" + Talk.times("x", 2001) + "\"", "too-long");
    t.fails("\"" + Talk.times("x", 2001), "read-error");
    for (int i = 0; i < 10; i++) {
      StringBuilder many = new StringBuilder("'(");
      for (int k = t.box.about(3); k < 40 * (i + 1); k++) {
        many.append(" s").append(k);
      }
      t.does(many.append(")").toString());
    }
    Talk.same("symbols", t.box.about(3), 400);
    t.fails("'(s1 s2 onemore)", "too-many-symbols");
    t.does("'(s1 s2 car nil global-map)");
    t.fails("(intern \"onemore\")", "too-many-symbols");
    t.does("(intern \"s7\")");
    Talk.same("symbols", t.box.about(3), 400);
  }

  private static void whenItIsRead() {
    Talk t = new Talk();
    t.fails("(insert \"a\") (insert \"b\"", "read-error");
    Talk.same("what went before stays", t.text(0), "a");
    Talk.same("what is read later is not read before", t.load("(car 5) newone)"), 2);
    Talk.same("message", t.message(), "wrong-type: 5");
    Talk.same("no symbol", t.box.about(3), 0);
    t.fails("(newone anewone", "read-error");
    Talk.same("symbols are there from the reading on", t.box.about(3), 2);
    t.does("\"12345678\" \"123456789\" \"\" '(a . b) 'c");
    // 2 + 3 + 1, a cons and two for ', two for '.
    Talk.same("cells", t.box.about(2), 2 + 3 + 1 + 3 + 2);
  }
}
