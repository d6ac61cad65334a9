import java.lang.reflect.Constructor;
import java.lang.reflect.Field;
import java.lang.reflect.Method;
import java.lang.reflect.Modifier;

/** Promise 1, and the public face. */
public final class NewObjectTest {
  public static void main(String[] args) {
    aNewObject();
    limitsEachByItself();
    theFace();
    Talk.end();
  }

  private static void aNewObject() {
    Talk t = new Talk(6, 24, 300, 40);
    Talk.same("buffers", t.box.about(4), 1);
    Talk.same("windows", t.box.about(5), 1);
    Talk.same("current", t.box.about(6), 0);
    Talk.same("text", t.text(0), "");
    Talk.same("point", t.box.buffer(0, 0), 1);
    Talk.same("end", t.box.buffer(0, 1), 1);
    Talk.same("modified", t.box.buffer(0, 2), 0);
    Talk.same("records", t.box.buffer(0, 3), 0);
    Talk.same("name", t.box.buffer(0, 4), 4);
    Talk.same("message", t.message(), "");
    Talk.same("shown at once", t.row(4), "-- main L1 C0-----------");
    Talk.same("cursor row", t.box.about(7), 0);
    Talk.same("cursor column", t.box.about(8), 0);
    t.is("global-map", "(keymap)");
    t.is("last-key", "0");
    t.is("(list nil t (boundp 'nil) (boundp 't))", "(nil t t t)");
    t.is("(list (boundp 'car) (boundp 'quote) (boundp 'error) (boundp 'x) (boundp 'keymap))", "(nil nil nil nil nil)");
    t.fails("macro", "void-variable: macro");
    Talk other = new Talk();
    t.does("(setq a 1)");
    other.fails("a", "void-variable: a");
  }

  private static void limitsEachByItself() {
    Talk t = new Talk(3, 19, 99, 15);
    Talk.same("least rows", t.box.window(0, 2), 3);
    Talk.same("least columns", t.box.window(0, 3), 20);
    t.fails("(while t)", "fuel");
    Talk.same("least fuel", t.box.about(0), 100);
    t.fails("(defun f () (f)) (f)", "depth");
    Talk.same("least depth", t.box.about(0), 10);
    t = new Talk(41, 81, 5001, 151);
    Talk.same("most rows", t.box.window(0, 2), 39);
    Talk.same("most columns", t.box.window(0, 3), 80);
    t.fails("(while t)", "fuel");
    Talk.same("most fuel", t.box.about(0), 5000);
    t.fails("(defun f () (f)) (f)", "depth");
    Talk.same("most depth", t.box.about(0), 77);
    t = new Talk(Integer.MIN_VALUE, Integer.MAX_VALUE, Integer.MIN_VALUE, Integer.MAX_VALUE);
    Talk.same("least rows", t.box.window(0, 2), 3);
    Talk.same("most columns", t.box.window(0, 3), 80);
    t = new Talk(10, 30, 200, 20);
    Talk.same("rows", t.box.window(0, 2), 9);
    Talk.same("columns", t.box.window(0, 3), 30);
    t.fails("(while t)", "fuel");
    Talk.same("fuel", t.box.about(0), 200);
  }

  private static void theFace() {
    Talk.same("NONE", EditorBox.NONE, -1);
    StringBuilder seen = new StringBuilder();
    for (Method m : EditorBox.class.getDeclaredMethods()) {
      if (!Modifier.isPrivate(m.getModifiers())) {
        seen.append(m.getName());
      }
    }
    Talk.same("as many open methods as told", seen.length(), "feedendloadkeyshownmessagesignbufferwindowabout".length());
    for (Field f : EditorBox.class.getDeclaredFields()) {
      Talk.same("field " + f.getName(), Modifier.isPrivate(f.getModifiers()) ? 1 : 0, f.getName().equals("NONE") ? 0 : 1);
    }
    Constructor<?>[] all = EditorBox.class.getDeclaredConstructors();
    Talk.same("constructors", all.length, 1);
    Talk.same("final", Modifier.isFinal(EditorBox.class.getModifiers()) ? 1 : 0, 1);
  }
}
