/** Promises 2 and 3: feed and end. */
public final class TapeTest {
  public static void main(String[] args) {
    feeding();
    ending();
    aFullTape();
    Talk.end();
  }

  private static void feeding() {
    Talk t = new Talk();
    Talk.same("twenty", t.box.feed(0x28696e73, 0x65727420, 0x22686922, 0x29202020, 0x20202020), 20);
    Talk.same("signs", t.box.about(10), 20);
    Talk.same("load", t.box.load(), 1);
    Talk.same("text", t.text(0), "hi");
    Talk.same("empty then", t.box.about(10), 0);
    // ?A with the highest bits set: only the lowest seven count.
    Talk.same("twenty", t.box.feed(0xa869ee73, 0x65f27420, 0xbfc1a920, 0xa0a0a0a0, 0xa0a0a0a0), 20);
    Talk.same("load", t.box.load(), 1);
    Talk.same("text", t.text(0), "hiA");
  }

  private static void ending() {
    Talk t = new Talk();
    Talk.same("end(0) of none", t.box.end(0) ? 1 : 0, 1);
    Talk.same("end(1) of none", t.box.end(1) ? 1 : 0, 0);
    Talk.same("end(-1)", t.box.end(-1) ? 1 : 0, 0);
    t.box.feed(0x31203220, 0x29202020, 0x20202020, 0x20202020, 0x20202020);
    Talk.same("end(21)", t.box.end(21) ? 1 : 0, 0);
    Talk.same("stays", t.box.about(10), 20);
    Talk.same("end(20)", t.box.end(20) ? 1 : 0, 1);
    Talk.same("end(min)", t.box.end(Integer.MIN_VALUE) ? 1 : 0, 0);
    Talk.same("end(4)", t.box.end(4) ? 1 : 0, 1);
    Talk.same("has four", t.box.about(10), 4);
    Talk.same("the ) is gone", t.box.load(), 1);
    t.box.feed(0x29202020, 0x20202020, 0x20202020, 0x20202020, 0x20202020);
    Talk.same("the ) is there", t.box.load(), 2);
    Talk.same("empty after an error", t.box.about(10), 0);
  }

  private static void aFullTape() {
    Talk t = new Talk();
    for (int i = 0; i < 409; i++) {
      t.box.feed(0x20202020, 0x20202020, 0x20202020, 0x20202020, 0x20202020);
    }
    Talk.same("nearly full", t.box.about(10), 8180);
    // (insert ?z)) with the second ) as the 8193rd sign.
    Talk.same("full", t.box.feed(0x20286963, 0x20202020, 0x20202031, 0x29292929, 0x29292929), 8192);
    Talk.same("stays full", t.box.feed(0x29292929, 0, 0, 0, 0), 8192);
    Talk.same("only what had room is read", t.box.load(), 2);
    Talk.same("message", t.message(), "read-error");
    t = new Talk();
    String code = Talk.times(" ", 8192 - 11) + "(insert ?z)";
    t.feed(code);
    Talk.same("full", t.box.about(10), 8192);
    Talk.same("no room", t.box.feed(0x29292929, 0x29292929, 0x29292929, 0x29292929, 0x29292929), 8192);
    Talk.same("load", t.box.load(), 1);
    Talk.same("text", t.text(0), "z");
  }
}
