import java.util.ArrayList;
import java.util.List;

/**
 * An EditorBox for tests that ask much. The document tells nothing of what comes behind the 512th call, so ahead of
 * one more, all that changed the object is done again on a new one, and the test goes on with that.
 */
final class Box {
  private static final int MOST_CALLS = 512;
  private static final int FEED = 0;
  private static final int END = 1;
  private static final int LOAD = 2;
  private static final int KEY = 3;
  private final int[] made;
  private final List<int[]> deeds = new ArrayList<>();
  private EditorBox box;
  private int calls;

  Box(int rows, int columns, int fuel, int depth) {
    made = new int[] {rows, columns, fuel, depth};
    renew();
  }

  private void renew() {
    box = new EditorBox(made[0], made[1], made[2], made[3]);
    calls = deeds.size();
    if (calls >= MOST_CALLS) {
      throw new IllegalStateException("a test changes one object by more than 512 calls");
    }
    for (int[] deed : deeds) {
      perform(deed);
    }
  }

  private int perform(int[] deed) {
    switch (deed[0]) {
      case FEED: return box.feed(deed[1], deed[2], deed[3], deed[4], deed[5]);
      case END: return box.end(deed[1]) ? 1 : 0;
      case LOAD: return box.load();
      default: return box.key(deed[1]);
    }
  }

  private int change(int... deed) {
    count();
    deeds.add(deed);
    return perform(deed);
  }

  private void count() {
    if (calls >= MOST_CALLS) {
      renew();
    }
    calls++;
  }

  int feed(int a, int b, int c, int d, int e) {
    return change(FEED, a, b, c, d, e);
  }

  boolean end(int n) {
    return change(END, n) == 1;
  }

  int load() {
    return change(LOAD);
  }

  int key(int k) {
    return change(KEY, k);
  }

  int shown(int row, int column) {
    count();
    return box.shown(row, column);
  }

  int message(int i) {
    count();
    return box.message(i);
  }

  int sign(int b, int p) {
    count();
    return box.sign(b, p);
  }

  int buffer(int b, int what) {
    count();
    return box.buffer(b, what);
  }

  int window(int k, int what) {
    count();
    return box.window(k, what);
  }

  int about(int what) {
    count();
    return box.about(what);
  }
}
