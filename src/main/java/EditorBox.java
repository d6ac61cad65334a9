import java.util.Arrays;

/** An editor that can be taught: buffers, windows, keys, and a small Lisp with a heap that is collected. */
public final class EditorBox {
  public static final int NONE = -1;

  // A value is an int: its kind in the lowest three bits, what it is above them.
  private static final int SYMBOL = 0;
  private static final int INT = 1;
  private static final int CONS = 2;
  private static final int STRING = 3;
  private static final int MARKER = 4;
  private static final int BUFFER = 5;
  // Only in the first cell of a string and in a marker's cell, so that a collection knows what it walks over.
  private static final int STRING_HEAD = 6;
  private static final int MARKER_HEAD = 7;
  // What a symbol without a value has; no value looks like it.
  private static final int VOID = 7;

  private static final int CELLS = 6000;
  private static final int MOST_CDRS = 4096;
  private static final int MOST_STRING = 2000;
  private static final int MOST_NAME = 24;
  private static final int MOST_OWN_SYMBOLS = 400;
  private static final int SYMBOL_ROOM = 600;
  private static final int BUCKETS = 256;
  private static final int TAPE = 8192;
  private static final int NESTING = 60;
  private static final int MOST_BOUND = 20;
  private static final int MOST_PRINTED = 200;
  private static final int BUFFERS = 6;
  private static final int TEXT = 1500;
  private static final int RECORDS = 60;
  private static final int KEPT_SIGNS = 2000;
  private static final int MOST_KEYS = 8;
  private static final int WINDOWS = 6;
  private static final int NODES = 11;
  private static final int MOST_DEPTH = 150;
  // Far above what the turns of one evaluation can be: steps, cells and levels keep them low.
  private static final int TURNS = 1000000;

  // All places that go with the text lie in one row: markers, windows' starts and points, excursions.
  private static final int MARKERS = 40;
  private static final int STARTS = MARKERS;
  private static final int POINTS = STARTS + NODES;
  private static final int TRIPS = POINTS + NODES;
  private static final int PLACES = TRIPS + MOST_DEPTH;

  private static final int NOTHING = 0;
  private static final int FAILED = 1;
  private static final int THROWN = 2;

  // The words told in the document, and below them their symbols in the same order.
  private static final String WORDS = "nil t";
  private static final String SPECIAL_FORMS =
      "quote setq if cond while progn and or let let* lambda defun defmacro defvar catch condition-case unwind-protect save-excursion";
  private static final String MARKS = "macro &optional &rest keymap global-map last-key";
  private static final String CONDITIONS =
      "error circular heap-full too-many-markers read-error too-many-symbols too-long fuel depth";
  private static final String MORE_CONDITIONS =
      "void-variable void-function bad-form wrong-number-of-args no-catch out-of-range wrong-type arith constant";
  private static final String EDITOR_CONDITIONS =
      "too-many-buffers buffer-full end-of-buffer beginning-of-buffer search-failed";
  private static final int NIL = 0 << 3;
  private static final int T = 1 << 3;
  private static final int QUOTE = 2 << 3;
  private static final int SETQ = 3 << 3;
  private static final int IF = 4 << 3;
  private static final int COND = 5 << 3;
  private static final int WHILE = 6 << 3;
  private static final int PROGN = 7 << 3;
  private static final int AND = 8 << 3;
  private static final int OR = 9 << 3;
  private static final int LET = 10 << 3;
  private static final int LET_STAR = 11 << 3;
  private static final int LAMBDA = 12 << 3;
  private static final int DEFUN = 13 << 3;
  private static final int DEFMACRO = 14 << 3;
  private static final int DEFVAR = 15 << 3;
  private static final int CATCH = 16 << 3;
  private static final int CONDITION_CASE = 17 << 3;
  private static final int UNWIND_PROTECT = 18 << 3;
  private static final int SAVE_EXCURSION = 19 << 3;
  private static final int MACRO = 20 << 3;
  private static final int OPTIONAL = 21 << 3;
  private static final int REST = 22 << 3;
  private static final int KEYMAP = 23 << 3;
  private static final int GLOBAL_MAP = 24 << 3;
  private static final int LAST_KEY = 25 << 3;
  private static final int ERROR = 26 << 3;
  private static final int CIRCULAR = 27 << 3;
  private static final int HEAP_FULL = 28 << 3;
  private static final int TOO_MANY_MARKERS = 29 << 3;
  private static final int READ_ERROR = 30 << 3;
  private static final int TOO_MANY_SYMBOLS = 31 << 3;
  private static final int TOO_LONG = 32 << 3;
  private static final int FUEL = 33 << 3;
  private static final int DEPTH = 34 << 3;
  private static final int VOID_VARIABLE = 35 << 3;
  private static final int VOID_FUNCTION = 36 << 3;
  private static final int BAD_FORM = 37 << 3;
  private static final int WRONG_NUMBER_OF_ARGS = 38 << 3;
  private static final int NO_CATCH = 39 << 3;
  private static final int OUT_OF_RANGE = 40 << 3;
  private static final int WRONG_TYPE = 41 << 3;
  private static final int ARITH = 42 << 3;
  private static final int CONSTANT = 43 << 3;
  private static final int TOO_MANY_BUFFERS = 44 << 3;
  private static final int BUFFER_FULL = 45 << 3;
  private static final int END_OF_BUFFER = 46 << 3;
  private static final int BEGINNING_OF_BUFFER = 47 << 3;
  private static final int SEARCH_FAILED = 48 << 3;

  // Primitives with the kinds of their arguments: v any value, i INT, s string, y symbol, l proper list,
  // n any list, c cons, m marker, b buffer, p place, q proper list or string, g what can be inserted;
  // a great letter may be missing or NIL, * stands behind what may come any number of times.
  private static final String CONTROL_TABLE = "funcall:vv* apply:vl eval:v mapcar:vl throw:vv signal:yv error:s";
  private static final String LIST_TABLE =
      "cons:vv car:n cdr:n setcar:cv setcdr:cv list:v* nth:in nthcdr:in length:q reverse:l append:lv memq:vl member:vl assq:vl assoc:vl";
  private static final String TEST_TABLE = "eq:vv equal:vv null:v consp:v symbolp:v intp:v stringp:v";
  private static final String NUMBER_TABLE = "+:i* *:i* -:ii* /:ii %:ii <:ii >:ii =:ii logand:ii logior:ii shift:ii";
  private static final String SYMBOL_TABLE =
      "set:yv symbol-value:y boundp:y fset:yv symbol-function:y symbol-name:y intern:s";
  private static final String STRING_TABLE =
      "concat:s* substring:sii string=:ss string<:ss sign:si string:i number:s print:v";
  private static final String BUFFER_TABLE =
      "buffer:s set-buffer:b current-buffer: buffer-name:b point: point-max: goto-char:p insert:g* delete-region:pp region:pp undo: boundary: modified: set-modified:v";
  private static final String MOVE_TABLE =
      "char-after:P char-before:P bolp: eolp: forward-char:I forward-line:I beginning-of-line: end-of-line: search-forward:sV search-backward:sV skip-forward:s column: line:";
  private static final String MARK_TABLE =
      "marker:p set-marker:mp marker-place:m marker-moves:mv put-face:ppi face:p make-map: define-key:vsv lookup-key:vs use-map:v";
  private static final String WINDOW_TABLE =
      "split-below: split-right: other-window: delete-window: delete-other-windows: show-buffer:b window-start: set-window-start:p message:s";

  // The primitives' numbers, in the order of the tables.
  private static final int FIRST_CONTROL = 0;
  private static final int P_FUNCALL = 0;
  private static final int P_APPLY = 1;
  private static final int P_EVAL = 2;
  private static final int P_MAPCAR = 3;
  private static final int P_THROW = 4;
  private static final int P_SIGNAL = 5;
  private static final int P_ERROR = 6;
  private static final int FIRST_LIST = 7;
  private static final int P_CONS = 7;
  private static final int P_CAR = 8;
  private static final int P_CDR = 9;
  private static final int P_SETCAR = 10;
  private static final int P_SETCDR = 11;
  private static final int P_LIST = 12;
  private static final int P_NTH = 13;
  private static final int P_NTHCDR = 14;
  private static final int P_LENGTH = 15;
  private static final int P_REVERSE = 16;
  private static final int P_APPEND = 17;
  private static final int P_MEMQ = 18;
  private static final int P_MEMBER = 19;
  private static final int P_ASSQ = 20;
  private static final int P_ASSOC = 21;
  private static final int FIRST_TEST = 22;
  private static final int P_EQ = 22;
  private static final int P_EQUAL = 23;
  private static final int P_NULL = 24;
  private static final int P_CONSP = 25;
  private static final int P_SYMBOLP = 26;
  private static final int P_INTP = 27;
  private static final int P_STRINGP = 28;
  private static final int FIRST_NUMBER = 29;
  private static final int P_PLUS = 29;
  private static final int P_TIMES = 30;
  private static final int P_MINUS = 31;
  private static final int P_DIVIDE = 32;
  private static final int P_REST = 33;
  private static final int P_LESS = 34;
  private static final int P_MORE = 35;
  private static final int P_SAME = 36;
  private static final int P_LOGAND = 37;
  private static final int P_LOGIOR = 38;
  private static final int P_SHIFT = 39;
  private static final int FIRST_SYMBOL = 40;
  private static final int P_SET = 40;
  private static final int P_SYMBOL_VALUE = 41;
  private static final int P_BOUNDP = 42;
  private static final int P_FSET = 43;
  private static final int P_SYMBOL_FUNCTION = 44;
  private static final int P_SYMBOL_NAME = 45;
  private static final int P_INTERN = 46;
  private static final int FIRST_STRING = 47;
  private static final int P_CONCAT = 47;
  private static final int P_SUBSTRING = 48;
  private static final int P_STRING_SAME = 49;
  private static final int P_STRING_LESS = 50;
  private static final int P_SIGN = 51;
  private static final int P_STRING = 52;
  private static final int P_NUMBER = 53;
  private static final int P_PRINT = 54;
  private static final int FIRST_BUFFER = 55;
  private static final int P_BUFFER = 55;
  private static final int P_SET_BUFFER = 56;
  private static final int P_CURRENT_BUFFER = 57;
  private static final int P_BUFFER_NAME = 58;
  private static final int P_POINT = 59;
  private static final int P_POINT_MAX = 60;
  private static final int P_GOTO_CHAR = 61;
  private static final int P_INSERT = 62;
  private static final int P_DELETE_REGION = 63;
  private static final int P_REGION = 64;
  private static final int P_UNDO = 65;
  private static final int P_BOUNDARY = 66;
  private static final int P_MODIFIED = 67;
  private static final int P_SET_MODIFIED = 68;
  private static final int FIRST_MOVE = 69;
  private static final int P_CHAR_AFTER = 69;
  private static final int P_CHAR_BEFORE = 70;
  private static final int P_BOLP = 71;
  private static final int P_EOLP = 72;
  private static final int P_FORWARD_CHAR = 73;
  private static final int P_FORWARD_LINE = 74;
  private static final int P_BEGINNING_OF_LINE = 75;
  private static final int P_END_OF_LINE = 76;
  private static final int P_SEARCH_FORWARD = 77;
  private static final int P_SEARCH_BACKWARD = 78;
  private static final int P_SKIP_FORWARD = 79;
  private static final int P_COLUMN = 80;
  private static final int P_LINE = 81;
  private static final int FIRST_MARK = 82;
  private static final int P_MARKER = 82;
  private static final int P_SET_MARKER = 83;
  private static final int P_MARKER_PLACE = 84;
  private static final int P_MARKER_MOVES = 85;
  private static final int P_PUT_FACE = 86;
  private static final int P_FACE = 87;
  private static final int P_MAKE_MAP = 88;
  private static final int P_DEFINE_KEY = 89;
  private static final int P_LOOKUP_KEY = 90;
  private static final int P_USE_MAP = 91;
  private static final int FIRST_WINDOW = 92;
  private static final int P_SPLIT_BELOW = 92;
  private static final int P_SPLIT_RIGHT = 93;
  private static final int P_OTHER_WINDOW = 94;
  private static final int P_DELETE_WINDOW = 95;
  private static final int P_DELETE_OTHER_WINDOWS = 96;
  private static final int P_SHOW_BUFFER = 97;
  private static final int P_WINDOW_START = 98;
  private static final int P_SET_WINDOW_START = 99;
  private static final int P_MESSAGE = 100;
  private static final int PRIMITIVES = 101;

  private final Heap heap;
  private final Symbols names;
  private final Desk desk;
  private final Panes panes;
  private final Script script;
  private final Screen screen;
  private final Edits edits;
  private final Machine machine;
  private final int[] waiting = new int[MOST_KEYS + 1];
  private int waits;
  private int steps;
  private int made;
  private int live;

  public EditorBox(int rows, int columns, int fuel, int depth) {
    int high = within(rows, 4, 40);
    int wide = within(columns, 20, 80);
    int most = within(fuel, 100, 5000);
    int levels = within(depth, 16, MOST_DEPTH);
    heap = new Heap();
    names = new Symbols(heap, levels);
    desk = new Desk();
    panes = new Panes(desk, high - 1, wide);
    script = new Script(heap, names, desk);
    screen = new Screen(desk, panes, script, high, wide);
    Args args = new Args(heap, names, desk, stackRoom(most, levels));
    Values values = new Values(heap, names, args, script);
    edits = new Edits(heap, args, desk, panes, screen);
    machine = new Machine(heap, names, args, values, edits, most, levels);
    names.assign(GLOBAL_MAP, heap.cons(KEYMAP, NIL));
    names.assign(LAST_KEY, number(0));
    screen.show();
  }

  public int feed(int a, int b, int c, int d, int e) {
    script.add(a);
    script.add(b);
    script.add(c);
    script.add(d);
    script.add(e);
    return script.tapeSize;
  }

  public boolean end(int n) {
    if (n < 0 || n > script.tapeSize) {
      return false;
    }
    script.tapeSize = n;
    return true;
  }

  public int load() {
    begin(NIL);
    script.rewind();
    for (int things = 0; things <= TAPE; things++) {
      int thing = script.next();
      if (script.ended || heap.trouble != NOTHING) {
        break;
      }
      machine.evaluate(thing);
      machine.spin();
      if (heap.trouble != NOTHING) {
        break;
      }
    }
    script.tapeSize = 0;
    return finish();
  }

  public int key(int k) {
    if (k < 0 || k > 127) {
      return NONE;
    }
    int binding = NIL;
    if (waits < MOST_KEYS) {
      waiting[waits] = k;
      waits++;
      binding = bindingOfWaiting();
      if (edits.isMap(binding)) {
        tellKeys(false);
        return 0;
      }
    } else {
      waiting[MOST_KEYS] = k;
      waits = MOST_KEYS + 1;
    }
    if (binding != NIL) {
      waits = 0;
      names.assign(LAST_KEY, number(k));
      machine.callWithNothing(begin(binding));
      machine.spin();
      return finish();
    }
    if (waits == 1 && k >= 32 && k <= 126) {
      waits = 0;
      begin(NIL);
      edits.insertSign(k);
      return finish();
    }
    tellKeys(true);
    waits = 0;
    return 3;
  }

  public int shown(int row, int column) {
    return screen.at(row, column);
  }

  public int message(int i) {
    return i >= 0 && i < screen.told && i < MOST_PRINTED ? screen.words[i] : NONE;
  }

  public int sign(int b, int p) {
    return b >= 0 && b < desk.count ? desk.text(b).after(p) : NONE;
  }

  public int buffer(int b, int what) {
    if (b < 0 || b >= desk.count) {
      return NONE;
    }
    Text text = desk.text(b);
    switch (what) {
      case 0: return text.point;
      case 1: return text.size + 1;
      case 2: return text.modified ? 1 : 0;
      case 3: return text.records;
      case 4: return text.nameSize;
      default: return NONE;
    }
  }

  public int window(int k, int what) {
    if (k < 0 || k >= panes.count) {
      return NONE;
    }
    return panes.tell(panes.leafAt(k), what);
  }

  public int about(int what) {
    switch (what) {
      case 0: return steps;
      case 1: return live;
      case 2: return made;
      case 3: return names.count - names.told;
      case 4: return desk.count;
      case 5: return panes.count;
      case 6: return desk.current;
      case 7: return screen.cursorRow;
      case 8: return screen.cursorColumn;
      case 9: return waits;
      case 10: return script.tapeSize;
      case 11: return desk.markers();
      default: return NONE;
    }
  }

  /** Begins a command; answers what it was given, which may have moved in the heap. */
  private int begin(int given) {
    heap.trouble = NOTHING;
    heap.beginMoves();
    for (int i = 0; i < names.count; i++) {
      names.moveOne(i);
    }
    for (int b = 0; b < desk.count; b++) {
      desk.text(b).map = heap.move(desk.text(b).map);
    }
    int moved = heap.move(given);
    heap.endMoves();
    desk.keepMarkers(heap.reached);
    screen.told = 0;
    desk.current = panes.shows(panes.chosen);
    desk.text(desk.current).addBoundary();
    machine.begin();
    return moved;
  }

  /** Ends a command: 1 if all went well, 2 by an error. */
  private int finish() {
    int answer = 1;
    steps = machine.steps;
    live = heap.live;
    made = heap.top - heap.live;
    if (heap.trouble != NOTHING) {
      answer = 2;
      tellError();
      heap.trouble = NOTHING;
    }
    screen.show();
    return answer;
  }

  private void tellError() {
    script.clear();
    if (heap.cause == ERROR && isString(heap.datum)) {
      script.putString(heap.datum);
    } else {
      script.putName(heap.cause);
      if (heap.datum != NIL) {
        script.put(':');
        script.put(' ');
        script.print(heap.datum);
      }
    }
    screen.tell(script.signs, script.size);
  }

  private int bindingOfWaiting() {
    int binding = edits.goAlong(desk.text(panes.shows(panes.chosen)).map, waiting, waits);
    return binding != NIL ? binding : edits.goAlong(names.value(GLOBAL_MAP), waiting, waits);
  }

  private void tellKeys(boolean undefined) {
    script.clear();
    for (int i = 0; i < waits && i < waiting.length; i++) {
      script.putVisible(waiting[i]);
    }
    if (undefined) {
      script.putText(" undefined");
    }
    screen.tell(script.signs, script.size);
    screen.show();
  }

  private static int within(int n, int least, int most) {
    return Math.max(least, Math.min(most, n));
  }

  /** Room for arguments: mapcar keeps whole lists, but takes three levels each; all else comes by steps or levels. */
  private static int stackRoom(int fuel, int levels) {
    return (levels / 3 + 3) * (MOST_CDRS + 4) + 2 * fuel + 2 * MOST_BOUND * levels;
  }

  private static boolean isSymbol(int v) {
    return (v & 7) == SYMBOL;
  }

  private static boolean isInt(int v) {
    return (v & 7) == INT;
  }

  private static boolean isCons(int v) {
    return (v & 7) == CONS;
  }

  private static boolean isString(int v) {
    return (v & 7) == STRING;
  }

  private static int truth(boolean is) {
    return is ? T : NIL;
  }

  /** The INT of n, wrapped into 28 bits. */
  private static int number(int n) {
    return (n << 4) >> 1 | INT;
  }

  private static int intOf(int v) {
    return v >> 3;
  }

  /** Whether n signs of a row are digits, with or without a - before them. */
  private static boolean isDigits(byte[] row, int from, int n) {
    if (from < 0 || n < 1 || n > row.length - from) {
      return false;
    }
    int first = row[from] == '-' ? 1 : 0;
    for (int i = first; i < n; i++) {
      if (row[from + i] < '0' || row[from + i] > '9') {
        return false;
      }
    }
    return n > first;
  }

  /** The INT that n signs of a row are; Java's own wrapping comes to the same in the lowest 28 bits. */
  private static int numberOf(byte[] row, int from, int n) {
    if (from < 0 || n < 1 || n > row.length - from) {
      return number(0);
    }
    boolean below = row[from] == '-';
    int sum = 0;
    for (int i = below ? 1 : 0; i < n; i++) {
      sum = sum * 10 + (row[from + i] - '0');
    }
    return number(below ? -sum : sum);
  }

  /** The cells; and the error or throwing under way, since all that can fail has the heap at hand. */
  private static final class Heap {
    /** A row for signs on their way; nobody leaves anything in it. */
    final byte[] pad = new byte[TAPE];
    final boolean[] reached = new boolean[MARKERS];
    int top;
    int live;
    int trouble;
    int cause;
    int datum;
    private int[] cars = new int[CELLS];
    private int[] cdrs = new int[CELLS];
    private int[] spareCars = new int[CELLS];
    private int[] spareCdrs = new int[CELLS];
    private final int[] moved = new int[CELLS];
    private int spareTop;

    /** Begins an error; answers NIL, so that it can stand behind return. */
    int fail(int condition, int what) {
      trouble = FAILED;
      cause = condition;
      datum = what;
      return NIL;
    }

    /** How many cells the command may still make. */
    int free() {
      return CELLS - top;
    }

    private int grab(int cells) {
      if (cells < 0 || cells > CELLS - top) {
        trouble = FAILED;
        cause = HEAP_FULL;
        datum = NIL;
        return NONE;
      }
      int at = top;
      top += cells;
      return at;
    }

    int cons(int first, int rest) {
      int at = grab(1);
      if (at < 0) {
        return NIL;
      }
      cars[at] = first;
      cdrs[at] = rest;
      return at << 3 | CONS;
    }

    /** The list of n values of a row, all conses made at once, with a last cdr. */
    int list(int[] row, int start, int n, int last) {
      if (n <= 0 || start < 0 || n > row.length - start) {
        return last;
      }
      int at = grab(n);
      if (at < 0) {
        return NIL;
      }
      for (int i = 0; i < n; i++) {
        cars[at + i] = row[start + i];
        cdrs[at + i] = i + 1 < n ? (at + i + 1) << 3 | CONS : last;
      }
      return at << 3 | CONS;
    }

    int car(int v) {
      int at = v >> 3;
      return (v & 7) == CONS && at >= 0 && at < top ? cars[at] : NIL;
    }

    int cdr(int v) {
      int at = v >> 3;
      return (v & 7) == CONS && at >= 0 && at < top ? cdrs[at] : NIL;
    }

    void setCar(int v, int to) {
      int at = v >> 3;
      if ((v & 7) == CONS && at >= 0 && at < top) {
        cars[at] = to;
      }
    }

    void setCdr(int v, int to) {
      int at = v >> 3;
      if ((v & 7) == CONS && at >= 0 && at < top) {
        cdrs[at] = to;
      }
    }

    /** How many things a proper list has; NONE if it is no proper list. */
    int length(int v) {
      int at = v;
      for (int n = 0; n <= MOST_CDRS; n++) {
        if (at == NIL) {
          return n;
        }
        int cell = at >> 3;
        if ((at & 7) != CONS || cell < 0 || cell >= top) {
          return NONE;
        }
        at = cdrs[cell];
      }
      return NONE;
    }

    private static int cellsFor(int signs) {
      return 1 + (signs + 7) / 8;
    }

    int string(byte[] row, int start, int n) {
      if (start < 0 || n < 0 || n > row.length - start) {
        return NIL;
      }
      int at = grab(cellsFor(n));
      if (at < 0) {
        return NIL;
      }
      Arrays.fill(cars, at, at + cellsFor(n), 0);
      Arrays.fill(cdrs, at, at + cellsFor(n), 0);
      cars[at] = n << 3 | STRING_HEAD;
      for (int i = 0; i < n; i++) {
        int cell = at + 1 + (i >> 3);
        int part = row[start + i] << (i & 3) * 8;
        if ((i & 4) == 0) {
          cars[cell] |= part;
        } else {
          cdrs[cell] |= part;
        }
      }
      return at << 3 | STRING;
    }

    int size(int string) {
      int at = string >> 3;
      return (string & 7) == STRING && at >= 0 && at < top ? cars[at] >> 3 : 0;
    }

    int signAt(int string, int i) {
      int at = string >> 3;
      int cell = at + 1 + (i >> 3);
      if ((string & 7) != STRING || at < 0 || i < 0 || cell >= top || i >= cars[at] >> 3) {
        return 0;
      }
      int part = (i & 4) == 0 ? cars[cell] : cdrs[cell];
      return part >> (i & 3) * 8 & 127;
    }

    /** Puts a string's signs on the pad from a place on, as many as it holds; answers the place behind them. */
    int toPad(int string, int from) {
      int n = size(string);
      int at = from;
      for (int i = 0; i < n && at >= 0 && at < pad.length; i++) {
        pad[at] = (byte) signAt(string, i);
        at++;
      }
      return at;
    }

    boolean sameSigns(int one, int other) {
      if (!isString(one) || !isString(other) || size(one) != size(other)) {
        return false;
      }
      int n = size(one);
      for (int i = 0; i < n; i++) {
        if (signAt(one, i) != signAt(other, i)) {
          return false;
        }
      }
      return true;
    }

    int marker(int slot) {
      int at = grab(1);
      if (at < 0) {
        return NIL;
      }
      cars[at] = slot << 3 | MARKER_HEAD;
      cdrs[at] = NIL;
      return at << 3 | MARKER;
    }

    /** Which of the markers a value is; NONE if it is none. */
    int slot(int v) {
      int at = v >> 3;
      return (v & 7) == MARKER && at >= 0 && at < top ? cars[at] >> 3 : NONE;
    }

    void beginMoves() {
      Arrays.fill(moved, 0);
      for (int i = 0; i < MARKERS; i++) {
        reached[i] = false;
      }
      spareTop = 0;
    }

    /** Where a value is in the other half, to which its cells go if they have not yet. */
    int move(int v) {
      int kind = v & 7;
      int at = v >> 3;
      if (kind < CONS || kind > MARKER || at < 0 || at >= top) {
        return v;
      }
      if (moved[at] == 0) {
        int cells = kind == STRING ? cellsFor(cars[at] >> 3) : 1;
        int mark = kind == MARKER ? cars[at] >> 3 : NONE;
        if (cells < 1 || cells > top - at || cells > CELLS - spareTop) {
          return NIL;
        }
        if (mark >= 0 && mark < MARKERS) {
          reached[mark] = true;
        }
        System.arraycopy(cars, at, spareCars, spareTop, cells);
        System.arraycopy(cdrs, at, spareCdrs, spareTop, cells);
        moved[at] = spareTop + 1;
        spareTop += cells;
      }
      return moved[at] - 1 << 3 | kind;
    }

    /** Moves what the moved conses hold, row by row, and makes the other half the heap. */
    void endMoves() {
      for (int at = 0; at < spareTop && at < CELLS; at++) {
        int head = spareCars[at];
        if ((head & 7) == STRING_HEAD) {
          at += cellsFor(head >> 3) - 1;
        } else if ((head & 7) != MARKER_HEAD) {
          spareCars[at] = move(head);
          spareCdrs[at] = move(spareCdrs[at]);
        }
      }
      int[] oldCars = cars;
      int[] oldCdrs = cdrs;
      cars = spareCars;
      cdrs = spareCdrs;
      spareCars = oldCars;
      spareCdrs = oldCdrs;
      top = spareTop;
      live = top;
    }
  }

  /** The symbols with their names, values and functions, what is bound, and the primitives' tables. */
  private static final class Symbols {
    final int told;
    int count;
    int bound;
    private final Heap heap;
    private final byte[] letters = new byte[SYMBOL_ROOM * MOST_NAME];
    private final int[] sizes = new int[SYMBOL_ROOM];
    private final int[] values = new int[SYMBOL_ROOM];
    private final int[] functions = new int[SYMBOL_ROOM];
    private final int[] codes = new int[SYMBOL_ROOM];
    private final int[] buckets = new int[BUCKETS];
    private final int[] chain = new int[SYMBOL_ROOM];
    private final int[] boundNames;
    private final int[] boundValues;
    private final int[] primitives = new int[PRIMITIVES];
    private final char[] kinds = new char[PRIMITIVES * 4];
    private final int[] least = new int[PRIMITIVES];
    private final int[] most = new int[PRIMITIVES];
    private int limit = SYMBOL_ROOM;

    Symbols(Heap heap, int levels) {
      this.heap = heap;
      boundNames = new int[levels * MOST_BOUND];
      boundValues = new int[levels * MOST_BOUND];
      Arrays.fill(buckets, NONE);
      Arrays.fill(codes, NONE);
      Arrays.fill(values, VOID);
      addWords(WORDS);
      addWords(SPECIAL_FORMS);
      addWords(MARKS);
      addWords(CONDITIONS);
      addWords(MORE_CONDITIONS);
      addWords(EDITOR_CONDITIONS);
      addPrimitives(CONTROL_TABLE, FIRST_CONTROL);
      addPrimitives(LIST_TABLE, FIRST_LIST);
      addPrimitives(TEST_TABLE, FIRST_TEST);
      addPrimitives(NUMBER_TABLE, FIRST_NUMBER);
      addPrimitives(SYMBOL_TABLE, FIRST_SYMBOL);
      addPrimitives(STRING_TABLE, FIRST_STRING);
      addPrimitives(BUFFER_TABLE, FIRST_BUFFER);
      addPrimitives(MOVE_TABLE, FIRST_MOVE);
      addPrimitives(MARK_TABLE, FIRST_MARK);
      addPrimitives(WINDOW_TABLE, FIRST_WINDOW);
      told = count;
      limit = count + MOST_OWN_SYMBOLS;
      values[NIL >> 3] = NIL;
      values[T >> 3] = T;
    }

    private void addWords(String words) {
      int from = 0;
      for (int i = 0; i <= words.length(); i++) {
        if (i == words.length() || words.charAt(i) == ' ') {
          addWord(words, from, i);
          from = i + 1;
        }
      }
    }

    private int addWord(String words, int from, int to) {
      for (int i = from; i < to && i - from < MOST_NAME; i++) {
        heap.pad[i - from] = (byte) words.charAt(i);
      }
      return intern(heap.pad, 0, to - from);
    }

    private void addPrimitives(String table, int first) {
      int code = first;
      int from = 0;
      int colon = 0;
      for (int i = 0; i <= table.length(); i++) {
        if (i < table.length() && table.charAt(i) == ':') {
          colon = i;
        }
        if (i == table.length() || table.charAt(i) == ' ') {
          addPrimitive(code, addWord(table, from, colon), table, colon + 1, i);
          from = i + 1;
          code++;
        }
      }
    }

    private void addPrimitive(int code, int word, String table, int from, int to) {
      int at = word >> 3;
      if (code < 0 || code >= PRIMITIVES || at < 0 || at >= SYMBOL_ROOM) {
        return;
      }
      codes[at] = code;
      functions[at] = word;
      primitives[code] = word;
      for (int i = from; i < to && i - from < 4; i++) {
        char kind = table.charAt(i);
        kinds[code * 4 + i - from] = kind;
        if (kind == '*') {
          least[code]--;
          most[code] = MOST_CDRS * 2;
        } else {
          least[code] += kind >= 'a' ? 1 : 0;
          most[code]++;
        }
      }
    }

    /** The symbol of that name; VOID where a symbol more can't be. */
    int intern(byte[] row, int from, int n) {
      if (n < 1 || n > MOST_NAME || from < 0 || n > row.length - from) {
        return VOID;
      }
      int sum = n;
      for (int i = 0; i < n; i++) {
        sum = sum * 31 + row[from + i];
      }
      int bucket = sum & BUCKETS - 1;
      int at = buckets[bucket];
      for (int turn = 0; turn < SYMBOL_ROOM && at >= 0; turn++) {
        if (isNamed(at, row, from, n)) {
          return at << 3 | SYMBOL;
        }
        at = chain[at];
      }
      if (count >= limit || count >= SYMBOL_ROOM) {
        return VOID;
      }
      System.arraycopy(row, from, letters, count * MOST_NAME, n);
      sizes[count] = n;
      chain[count] = buckets[bucket];
      buckets[bucket] = count;
      count++;
      return count - 1 << 3 | SYMBOL;
    }

    private boolean isNamed(int at, byte[] row, int from, int n) {
      if (sizes[at] != n) {
        return false;
      }
      for (int i = 0; i < n; i++) {
        if (letters[at * MOST_NAME + i] != row[from + i]) {
          return false;
        }
      }
      return true;
    }

    private boolean isOne(int symbol) {
      return (symbol & 7) == SYMBOL && symbol >= 0 && symbol >> 3 < count;
    }

    /** Puts a symbol's name on the pad; answers how many signs it has. */
    int nameToPad(int symbol) {
      if (!isOne(symbol)) {
        return 0;
      }
      int n = sizes[symbol >> 3];
      System.arraycopy(letters, (symbol >> 3) * MOST_NAME, heap.pad, 0, n);
      return n;
    }

    int value(int symbol) {
      return isOne(symbol) ? values[symbol >> 3] : VOID;
    }

    int function(int symbol) {
      return isOne(symbol) ? functions[symbol >> 3] : NIL;
    }

    /** Sets a symbol's value; false, with an error, if it is a constant. */
    boolean assign(int symbol, int to) {
      if (symbol == NIL || symbol == T) {
        heap.fail(CONSTANT, symbol);
        return false;
      }
      if (isOne(symbol)) {
        values[symbol >> 3] = to;
      }
      return true;
    }

    boolean define(int symbol, int to) {
      if (symbol == NIL || symbol == T) {
        heap.fail(CONSTANT, symbol);
        return false;
      }
      if (isOne(symbol)) {
        functions[symbol >> 3] = to;
      }
      return true;
    }

    /** Binds a symbol until unbind; false, with an error, if it can't be. */
    boolean bind(int symbol, int to) {
      if (bound >= boundNames.length) {
        heap.fail(DEPTH, NIL);
        return false;
      }
      int old = value(symbol);
      if (!assign(symbol, to)) {
        return false;
      }
      boundNames[bound] = symbol;
      boundValues[bound] = old;
      bound++;
      return true;
    }

    void unbind(int to) {
      while (bound > to && bound > 0) {
        bound--;
        int at = boundNames[bound] >> 3;
        if (at >= 0 && at < count) {
          values[at] = boundValues[bound];
        }
      }
    }

    void moveOne(int at) {
      if (at >= 0 && at < count) {
        values[at] = heap.move(values[at]);
        functions[at] = heap.move(functions[at]);
      }
    }

    /** The number of the primitive that a symbol names; NONE if it names none. */
    int code(int symbol) {
      return isOne(symbol) ? codes[symbol >> 3] : NONE;
    }

    int primitive(int code) {
      return code >= 0 && code < PRIMITIVES ? primitives[code] : NIL;
    }

    boolean takes(int code, int arguments) {
      return code >= 0 && code < PRIMITIVES && arguments >= least[code] && arguments <= most[code];
    }

    /** The kind of a primitive's i-th argument; the last one's for all that may come any number of times. */
    char kind(int code, int i) {
      if (code < 0 || code >= PRIMITIVES) {
        return 'v';
      }
      int at = code * 4;
      for (int n = 0; n < i && n < 3 && kinds[at + 1] != '*'; n++) {
        at++;
      }
      return kinds[at];
    }
  }

  /** One buffer: its signs, faces and point, and the row of what undo takes back. */
  private static final class Text {
    private static final int INSERTED = 1;
    private static final int DELETED = 2;
    private static final int BOUNDARY = 3;
    final byte[] signs = new byte[TEXT];
    final byte[] faces = new byte[TEXT];
    final byte[] name = new byte[MOST_NAME];
    int nameSize;
    int size;
    int point = 1;
    int map = NIL;
    boolean modified;
    int records;
    private final int[] deeds = new int[RECORDS];
    private final int[] wheres = new int[RECORDS];
    private final int[] lengths = new int[RECORDS];
    private final byte[] gone = new byte[KEPT_SIGNS];
    private int goneSize;

    void setName(byte[] row, int n) {
      nameSize = Math.max(0, Math.min(n, Math.min(row.length, MOST_NAME)));
      System.arraycopy(row, 0, name, 0, nameSize);
    }

    boolean isNamed(byte[] row, int n) {
      if (n != nameSize || n > row.length) {
        return false;
      }
      for (int i = 0; i < n; i++) {
        if (row[i] != name[i]) {
          return false;
        }
      }
      return true;
    }

    /** The sign at a place; NONE if there is none. */
    int after(int place) {
      return place >= 1 && place <= size ? signs[place - 1] : NONE;
    }

    int faceAt(int place) {
      return place >= 1 && place <= size ? faces[place - 1] : 0;
    }

    void setFaces(int from, int to, int face) {
      if (from >= 1 && from <= to && to <= size + 1) {
        Arrays.fill(faces, from - 1, to - 1, (byte) face);
      }
    }

    int lineStart(int place) {
      int at = place;
      while (at > 1 && after(at - 1) != 10) {
        at--;
      }
      return at;
    }

    int lineEnd(int place) {
      int at = place;
      while (at <= size && after(at) != 10) {
        at++;
      }
      return at;
    }

    /** How many line ends there are from one place up to another. */
    int lines(int from, int to) {
      int n = 0;
      for (int at = from; at < to; at++) {
        if (after(at) == 10) {
          n++;
        }
      }
      return n;
    }

    /** Puts signs at a place; whoever calls has looked whether they have room. */
    void put(int place, byte[] row, int from, int n) {
      int at = place - 1;
      if (at < 0 || at > size || n < 0 || n > TEXT - size || from < 0 || n > row.length - from) {
        return;
      }
      System.arraycopy(signs, at, signs, at + n, size - at);
      System.arraycopy(faces, at, faces, at + n, size - at);
      System.arraycopy(row, from, signs, at, n);
      Arrays.fill(faces, at, at + n, (byte) 0);
      size += n;
      modified = true;
    }

    void cut(int from, int to) {
      if (from < 1 || to < from || to > size + 1) {
        return;
      }
      System.arraycopy(signs, to - 1, signs, from - 1, size + 1 - to);
      System.arraycopy(faces, to - 1, faces, from - 1, size + 1 - to);
      size -= to - from;
      modified = true;
    }

    void addInsertion(int place, int n) {
      makeRoom(0);
      add(INSERTED, place, n);
    }

    /** Keeps the signs that are about to be cut. */
    void addDeletion(int from, int to) {
      int n = to - from;
      if (from < 1 || n < 0 || to > size + 1) {
        return;
      }
      makeRoom(n);
      if (n <= KEPT_SIGNS - goneSize) {
        System.arraycopy(signs, from - 1, gone, goneSize, n);
        goneSize += n;
        add(DELETED, from, n);
      }
    }

    void addBoundary() {
      if (records > 0 && deeds[records - 1] != BOUNDARY) {
        makeRoom(0);
        add(BOUNDARY, 0, 0);
      }
    }

    private void add(int deed, int place, int n) {
      if (records >= 0 && records < RECORDS) {
        deeds[records] = deed;
        wheres[records] = place;
        lengths[records] = n;
        records++;
      }
    }

    /** The oldest records go until one more, with so many signs, has room; a boundary is never the first. */
    private void makeRoom(int more) {
      int old = 0;
      int oldSigns = 0;
      boolean lacking = records >= RECORDS || goneSize + more > KEPT_SIGNS;
      while (old < records && (lacking || old > 0 && deeds[old] == BOUNDARY)) {
        oldSigns += deeds[old] == DELETED ? lengths[old] : 0;
        old++;
        lacking = records - old >= RECORDS || goneSize - oldSigns + more > KEPT_SIGNS;
      }
      if (old > 0 && oldSigns <= goneSize) {
        records -= old;
        goneSize -= oldSigns;
        System.arraycopy(deeds, old, deeds, 0, records);
        System.arraycopy(wheres, old, wheres, 0, records);
        System.arraycopy(lengths, old, lengths, 0, records);
        System.arraycopy(gone, oldSigns, gone, 0, goneSize);
      }
    }

    /** Takes a boundary away that is the latest record. */
    boolean dropBoundary() {
      if (records > 0 && deeds[records - 1] == BOUNDARY) {
        records--;
        return true;
      }
      return false;
    }

    boolean latestIsInsertion() {
      return records > 0 && deeds[records - 1] == INSERTED;
    }

    int latestPlace() {
      return records > 0 ? wheres[records - 1] : 1;
    }

    int latestLength() {
      return records > 0 ? lengths[records - 1] : 0;
    }

    /** Takes the latest record away; the signs of a deletion go to the pad. */
    void dropLatest(byte[] pad) {
      if (records <= 0) {
        return;
      }
      records--;
      int n = lengths[records];
      if (deeds[records] == DELETED && n <= goneSize && n <= pad.length) {
        goneSize -= n;
        System.arraycopy(gone, goneSize, pad, 0, n);
      }
    }
  }

  /** The buffers, which of them is current, and all places that go with their text. */
  private static final class Desk {
    private static final byte[] FIRST_NAME = {'m', 'a', 'i', 'n'};
    int count = 1;
    int current;
    private final Text[] texts = new Text[BUFFERS];
    private final int[] homes = new int[PLACES];
    private final int[] places = new int[PLACES];
    private final boolean[] moves = new boolean[PLACES];
    private int trips;

    Desk() {
      for (int b = 0; b < BUFFERS; b++) {
        texts[b] = new Text();
      }
      Arrays.fill(homes, NONE);
      Arrays.fill(places, 1);
      texts[0].setName(FIRST_NAME, FIRST_NAME.length);
    }

    Text text(int b) {
      return b >= 0 && b < BUFFERS ? texts[b] : texts[0];
    }

    /** The buffer that has the first n signs of a row as its name; NONE if there is none. */
    int find(byte[] row, int n) {
      for (int b = 0; b < count && b < BUFFERS; b++) {
        if (texts[b].isNamed(row, n)) {
          return b;
        }
      }
      return NONE;
    }

    void setPlace(int index, int home, int place) {
      if (index >= 0 && index < PLACES) {
        homes[index] = home;
        places[index] = place;
      }
    }

    int place(int index) {
      return index >= 0 && index < PLACES ? places[index] : 1;
    }

    int home(int index) {
      return index >= 0 && index < PLACES ? homes[index] : NONE;
    }

    void setMoves(int index, boolean is) {
      if (index >= 0 && index < PLACES) {
        moves[index] = is;
      }
    }

    int markers() {
      int n = 0;
      for (int i = 0; i < MARKERS; i++) {
        n += homes[i] >= 0 ? 1 : 0;
      }
      return n;
    }

    /** A marker that is not in use; NONE if all are. */
    int freeMarker() {
      for (int i = 0; i < MARKERS; i++) {
        if (homes[i] < 0) {
          return i;
        }
      }
      return NONE;
    }

    void keepMarkers(boolean[] reached) {
      for (int i = 0; i < MARKERS && i < reached.length; i++) {
        if (!reached[i]) {
          homes[i] = NONE;
        }
      }
    }

    /** Puts signs at a place; whoever calls says where the buffer's point is then. */
    void insert(int b, int at, byte[] row, int n) {
      text(b).put(at, row, 0, n);
      for (int i = 0; i < PLACES; i++) {
        if (homes[i] == b && (places[i] > at || places[i] == at && moves[i])) {
          places[i] += n;
        }
      }
    }

    void delete(int b, int from, int to) {
      Text text = text(b);
      text.cut(from, to);
      if (text.point > from) {
        text.point = Math.max(from, text.point - (to - from));
      }
      for (int i = 0; i < PLACES; i++) {
        if (homes[i] == b && places[i] > from) {
          places[i] = Math.max(from, places[i] - (to - from));
        }
      }
    }

    /** Takes back what was done since the latest boundary with something behind it; false if there was nothing. */
    boolean undo(int b, byte[] pad) {
      Text text = text(b);
      text.dropBoundary();
      boolean some = text.records > 0;
      for (int turn = 0; turn < RECORDS && text.records > 0 && !text.dropBoundary(); turn++) {
        int at = text.latestPlace();
        int n = text.latestLength();
        boolean inserted = text.latestIsInsertion();
        text.dropLatest(pad);
        if (inserted) {
          delete(b, at, at + n);
          text.point = at;
        } else {
          insert(b, at, pad, n);
          text.point = at + n;
        }
      }
      return some;
    }

    void beginTrip() {
      if (trips < MOST_DEPTH) {
        setPlace(TRIPS + trips, current, text(current).point);
        trips++;
      }
    }

    void endTrip() {
      if (trips > 0) {
        trips--;
        current = home(TRIPS + trips);
        text(current).point = place(TRIPS + trips);
        setPlace(TRIPS + trips, NONE, 1);
      }
    }
  }

  /** The windows: the leaves of a tree of splits. */
  private static final class Panes {
    private static final int FREE = 0;
    private static final int LEAF = 1;
    private static final int BELOW = 2;
    private static final int RIGHT = 3;
    private static final int LEAST_ROWS = 3;
    private static final int LEAST_COLUMNS = 8;
    int count = 1;
    int chosen;
    private final Desk desk;
    private final int rows;
    private final int columns;
    private final int[] forms = new int[NODES];
    private final int[] ups = new int[NODES];
    private final int[] firsts = new int[NODES];
    private final int[] seconds = new int[NODES];
    private final int[] tops = new int[NODES];
    private final int[] lefts = new int[NODES];
    private final int[] highs = new int[NODES];
    private final int[] wides = new int[NODES];
    private final int[] buffers = new int[NODES];
    private final int[] todo = new int[NODES + 2];
    private int root;

    Panes(Desk desk, int rows, int columns) {
      this.desk = desk;
      this.rows = rows;
      this.columns = columns;
      Arrays.fill(forms, FREE);
      Arrays.fill(ups, NONE);
      forms[0] = LEAF;
      highs[0] = rows;
      wides[0] = columns;
      desk.setPlace(STARTS, 0, 1);
      desk.setPlace(POINTS, 0, 1);
    }

    private boolean isNode(int node) {
      return node >= 0 && node < NODES;
    }

    private int firstLeaf(int node) {
      int at = node;
      for (int turn = 0; turn < NODES && isNode(at) && forms[at] != LEAF; turn++) {
        at = firsts[at];
      }
      return at;
    }

    /** The leaf that lies behind another; the first one behind the last. */
    private int nextLeaf(int leaf) {
      int at = leaf;
      for (int turn = 0; turn < NODES && isNode(at) && isNode(ups[at]); turn++) {
        int up = ups[at];
        if (firsts[up] == at) {
          return firstLeaf(seconds[up]);
        }
        at = up;
      }
      return firstLeaf(root);
    }

    int leafAt(int k) {
      int at = firstLeaf(root);
      for (int i = 0; i < k && i < WINDOWS; i++) {
        at = nextLeaf(at);
      }
      return at;
    }

    int shows(int leaf) {
      return leaf >= 0 && leaf < NODES ? buffers[leaf] : 0;
    }

    int start(int leaf) {
      return desk.place(STARTS + leaf);
    }

    void setStart(int leaf, int place) {
      desk.setPlace(STARTS + leaf, shows(leaf), place);
    }

    int point(int leaf) {
      return leaf == chosen ? desk.text(shows(leaf)).point : desk.place(POINTS + leaf);
    }

    int high(int leaf) {
      return isNode(leaf) ? highs[leaf] : 0;
    }

    int wide(int leaf) {
      return isNode(leaf) ? wides[leaf] : 0;
    }

    int top(int leaf) {
      return isNode(leaf) ? tops[leaf] : 0;
    }

    int left(int leaf) {
      return isNode(leaf) ? lefts[leaf] : 0;
    }

    /** A right edge that is not the grid's is that of a left part. */
    boolean hasBar(int leaf) {
      return left(leaf) + wide(leaf) < columns;
    }

    int tell(int leaf, int what) {
      switch (what) {
        case 0: return top(leaf);
        case 1: return left(leaf);
        case 2: return high(leaf);
        case 3: return wide(leaf);
        case 4: return shows(leaf);
        case 5: return start(leaf);
        case 6: return point(leaf);
        case 7: return leaf == chosen ? 1 : 0;
        default: return NONE;
      }
    }

    private int takeNode(int form) {
      for (int node = 0; node < NODES; node++) {
        if (forms[node] == FREE) {
          forms[node] = form;
          return node;
        }
      }
      return NONE;
    }

    private void freeNode(int node) {
      forms[node] = FREE;
      desk.setPlace(STARTS + node, NONE, 1);
      desk.setPlace(POINTS + node, NONE, 1);
    }

    /** Another node comes where one was in the tree, with its area. */
    private void replace(int node, int other) {
      int up = ups[node];
      ups[other] = up;
      if (!isNode(up)) {
        root = other;
      } else if (firsts[up] == node) {
        firsts[up] = other;
      } else {
        seconds[up] = other;
      }
      setArea(other, tops[node], lefts[node], highs[node], wides[node]);
    }

    private void setArea(int node, int top, int left, int high, int wide) {
      tops[node] = top;
      lefts[node] = left;
      highs[node] = high;
      wides[node] = wide;
    }

    boolean splitBelow() {
      int high = high(chosen);
      return count < WINDOWS && high / 2 >= LEAST_ROWS && split(BELOW, high / 2);
    }

    boolean splitRight() {
      int wide = wide(chosen);
      return count < WINDOWS && wide / 2 >= LEAST_COLUMNS && split(RIGHT, wide / 2);
    }

    private boolean split(int form, int kept) {
      int node = takeNode(form);
      int leaf = takeNode(LEAF);
      if (!isNode(node) || !isNode(leaf) || !isNode(chosen)) {
        return false;
      }
      replace(chosen, node);
      firsts[node] = chosen;
      seconds[node] = leaf;
      ups[chosen] = node;
      ups[leaf] = node;
      if (form == BELOW) {
        highs[chosen] = kept;
      } else {
        wides[chosen] = kept;
      }
      spread(node);
      buffers[leaf] = buffers[chosen];
      setStart(leaf, start(chosen));
      desk.setPlace(POINTS + leaf, buffers[leaf], point(chosen));
      count++;
      return true;
    }

    /** Gives the parts below a node their areas: of each split the first one keeps what it had. */
    private void spread(int from) {
      int n = 1;
      todo[0] = from;
      for (int i = 0; i < n && n < NODES; i++) {
        int node = todo[i];
        int a = firsts[node];
        int b = seconds[node];
        if (forms[node] == BELOW) {
          setArea(a, tops[node], lefts[node], highs[a], wides[node]);
          setArea(b, tops[node] + highs[a], lefts[node], highs[node] - highs[a], wides[node]);
        } else if (forms[node] == RIGHT) {
          setArea(a, tops[node], lefts[node], highs[node], wides[a]);
          setArea(b, tops[node], lefts[node] + wides[a], highs[node], wides[node] - wides[a]);
        }
        if (forms[node] != LEAF) {
          todo[n] = a;
          todo[n + 1] = b;
          n += 2;
        }
      }
    }

    private void choose(int leaf) {
      chosen = leaf;
      desk.current = shows(leaf);
      desk.text(desk.current).point = desk.place(POINTS + leaf);
    }

    boolean chooseNext() {
      if (count < 2) {
        return false;
      }
      desk.setPlace(POINTS + chosen, shows(chosen), point(chosen));
      choose(nextLeaf(chosen));
      return true;
    }

    boolean deleteChosen() {
      if (count < 2 || !isNode(chosen) || !isNode(ups[chosen])) {
        return false;
      }
      int up = ups[chosen];
      int other = firsts[up] == chosen ? seconds[up] : firsts[up];
      if (!isNode(other)) {
        return false;
      }
      replace(up, other);
      spread(other);
      freeNode(chosen);
      freeNode(up);
      count--;
      choose(firstLeaf(other));
      return true;
    }

    boolean deleteOthers() {
      if (count < 2 || !isNode(chosen)) {
        return false;
      }
      for (int node = 0; node < NODES; node++) {
        if (node != chosen) {
          freeNode(node);
        }
      }
      root = chosen;
      ups[chosen] = NONE;
      setArea(chosen, 0, 0, rows, columns);
      count = 1;
      return true;
    }

    void show(int b) {
      if (isNode(chosen)) {
        buffers[chosen] = b;
        setStart(chosen, 1);
        desk.current = b;
      }
    }
  }

  /** The tape from which values are read, and the row of up to 200 signs in which they are printed. */
  private static final class Script {
    private static final int QUOTED = -1;
    private static final int NO_DOT = 0;
    private static final int DOT = 1;
    private static final int LAST_CDR = 2;
    int tapeSize;
    boolean ended;
    final byte[] signs = new byte[MOST_PRINTED];
    int size;
    private final Heap heap;
    private final Symbols names;
    private final Desk desk;
    private final byte[] tape = new byte[TAPE];
    private int at;
    private final int[] items = new int[TAPE + 2];
    private int count;
    private final int[] firstItems = new int[NESTING];
    private final int[] dots = new int[NESTING];
    private int open;
    private final int[] lists = new int[MOST_PRINTED + 1];
    private int following;

    Script(Heap heap, Symbols names, Desk desk) {
      this.heap = heap;
      this.names = names;
      this.desk = desk;
    }

    void add(int four) {
      for (int shift = 24; shift >= 0; shift -= 8) {
        if (tapeSize < TAPE) {
          tape[tapeSize] = (byte) (four >> shift & 127);
          tapeSize++;
        }
      }
    }

    void rewind() {
      at = 0;
    }

    /** The next thing of the tape; ended if there is none. */
    int next() {
      count = 0;
      open = 0;
      ended = false;
      for (int turn = 0; turn <= TAPE; turn++) {
        passBlanks();
        if (at >= tapeSize && open == 0) {
          ended = true;
          return NIL;
        }
        int thing = at < tapeSize ? readPart(tape[at]) : broken();
        if (thing != VOID) {
          thing = quoteWaiting(thing);
        }
        if (heap.trouble != NOTHING) {
          return NIL;
        }
        if (thing != VOID && open == 0) {
          return thing;
        }
        if (thing != VOID) {
          keep(thing);
        }
      }
      return NIL;
    }

    private int broken() {
      heap.fail(READ_ERROR, NIL);
      return VOID;
    }

    private static boolean isBlank(int sign) {
      return sign == 32 || sign == 9 || sign == 10 || sign == 13;
    }

    private void passBlanks() {
      boolean remark = false;
      while (at < tapeSize && (remark || isBlank(tape[at]) || tape[at] == ';')) {
        remark = (remark || tape[at] == ';') && tape[at] != 10 && tape[at] != 13;
        at++;
      }
    }

    /** Reads up to where a thing is whole, or VOID where a list or a ' is only begun. */
    private int readPart(int sign) {
      if (sign != ')' && open > 0 && dots[open - 1] == LAST_CDR) {
        return broken();
      }
      switch (sign) {
        case '(':
          at++;
          return begin(count);
        case '\'':
          at++;
          return begin(QUOTED);
        case ')':
          at++;
          return close();
        case '"':
          at++;
          return readString();
        case '?':
          at++;
          return readSign();
        default:
          return readToken();
      }
    }

    private int begin(int first) {
      if (open >= NESTING) {
        return broken();
      }
      firstItems[open] = first;
      dots[open] = NO_DOT;
      open++;
      return VOID;
    }

    private boolean inList() {
      return open > 0 && firstItems[open - 1] != QUOTED;
    }

    private int close() {
      if (!inList() || dots[open - 1] == DOT) {
        return broken();
      }
      open--;
      int first = firstItems[open];
      int n = count - first;
      boolean dotted = dots[open] == LAST_CDR && n > 0;
      int made = heap.list(items, first, dotted ? n - 1 : n, dotted ? items[count - 1] : NIL);
      count = first;
      return made;
    }

    private int quoteWaiting(int thing) {
      int made = thing;
      while (open > 0 && firstItems[open - 1] == QUOTED && heap.trouble == NOTHING) {
        open--;
        if (count <= TAPE) {
          items[count] = QUOTE;
          items[count + 1] = made;
        }
        made = heap.list(items, count, 2, NIL);
      }
      return made;
    }

    private void keep(int thing) {
      if (count < TAPE && open > 0) {
        items[count] = thing;
        count++;
        if (dots[open - 1] == DOT) {
          dots[open - 1] = LAST_CDR;
        }
      }
    }

    private static int escaped(int sign) {
      if (sign == 'n') {
        return 10;
      }
      return sign == 't' ? 9 : sign;
    }

    private int readString() {
      int n = 0;
      boolean behind = false;
      while (at < tapeSize && n < heap.pad.length && (behind || tape[at] != '"')) {
        int sign = tape[at];
        at++;
        if (sign == '\\' && !behind) {
          behind = true;
        } else {
          heap.pad[n] = (byte) (behind ? escaped(sign) : sign);
          n++;
          behind = false;
        }
      }
      if (at >= tapeSize) {
        return broken();
      }
      at++;
      if (n > MOST_STRING) {
        heap.fail(TOO_LONG, NIL);
        return VOID;
      }
      return heap.string(heap.pad, 0, n);
    }

    private int readSign() {
      boolean behind = at < tapeSize && tape[at] == '\\';
      if (behind) {
        at++;
      }
      if (at >= tapeSize) {
        return broken();
      }
      int sign = tape[at];
      at++;
      return number(behind ? escaped(sign) : sign);
    }

    private static boolean endsToken(int sign) {
      return isBlank(sign) || sign == '(' || sign == ')' || sign == '\'' || sign == '"' || sign == ';';
    }

    private int readToken() {
      int from = at;
      while (at < tapeSize && !endsToken(tape[at])) {
        at++;
      }
      int n = at - from;
      if (n == 1 && tape[from] == '.') {
        return readDot();
      }
      if (isDigits(tape, from, n)) {
        return numberOf(tape, from, n);
      }
      if (n > MOST_NAME) {
        return broken();
      }
      int symbol = names.intern(tape, from, n);
      if (symbol == VOID) {
        heap.fail(TOO_MANY_SYMBOLS, NIL);
      }
      return symbol;
    }

    private int readDot() {
      if (!inList() || dots[open - 1] != NO_DOT || count <= firstItems[open - 1]) {
        return broken();
      }
      dots[open - 1] = DOT;
      return VOID;
    }

    void clear() {
      size = 0;
    }

    void put(int sign) {
      if (size < MOST_PRINTED) {
        signs[size] = (byte) sign;
        size++;
      }
    }

    void putText(String text) {
      for (int i = 0; i < text.length(); i++) {
        put(text.charAt(i));
      }
    }

    void putRow(byte[] row, int n) {
      for (int i = 0; i < n && i < row.length && size < MOST_PRINTED; i++) {
        signs[size] = row[i];
        size++;
      }
    }

    /** A sign as a window shows it, but for a tab. */
    void putVisible(int sign) {
      if (sign < 32 || sign == 127) {
        put('^');
        put(sign ^ 64);
      } else {
        put(sign);
      }
    }

    void putNumber(int n) {
      int unit = 1;
      int rest = Math.abs(n);
      if (n < 0) {
        put('-');
      }
      while (unit < 1000000000 && rest / unit >= 10) {
        unit *= 10;
      }
      while (unit > 0) {
        put('0' + rest / unit % 10);
        unit /= 10;
      }
    }

    void putName(int symbol) {
      putRow(heap.pad, names.nameToPad(symbol));
    }

    void putString(int string) {
      int n = heap.size(string);
      for (int i = 0; i < n && i < MOST_PRINTED; i++) {
        put(heap.signAt(string, i));
      }
    }

    private void putQuoted(int string) {
      int n = heap.size(string);
      put('"');
      for (int i = 0; i < n && i < MOST_PRINTED; i++) {
        int sign = heap.signAt(string, i);
        if (sign == '"' || sign == '\\') {
          put('\\');
        }
        put(sign);
      }
      put('"');
    }

    private void putAtom(int v) {
      switch (v & 7) {
        case SYMBOL:
          putRow(heap.pad, names.nameToPad(v));
          break;
        case INT:
          putNumber(intOf(v));
          break;
        case STRING:
          putQuoted(v);
          break;
        case MARKER:
          putText("#marker");
          break;
        default:
          putText("#buffer ");
          putRow(desk.text(v >> 3).name, desk.text(v >> 3).nameSize);
          break;
      }
    }

    private boolean isQuote(int v) {
      int rest = heap.cdr(v);
      return heap.car(v) == QUOTE && isCons(rest) && heap.cdr(rest) == NIL;
    }

    /** Prints a value; each turn puts a sign at least, so a list that has no end fills the row and ends it. */
    void print(int value) {
      int v = value;
      int depth = 0;
      boolean more = true;
      for (int turn = 0; turn < MOST_PRINTED && more && size < MOST_PRINTED; turn++) {
        if (isCons(v) && isQuote(v)) {
          put('\'');
          v = heap.car(heap.cdr(v));
        } else if (isCons(v) && depth < lists.length) {
          put('(');
          lists[depth] = v;
          depth++;
          v = heap.car(v);
        } else {
          putAtom(v);
          depth = closeLists(depth);
          more = depth > 0;
          v = following;
        }
      }
    }

    /** Closes the lists that have nothing more; following is then the next thing of the innermost open one. */
    private int closeLists(int open) {
      int depth = open;
      while (depth > 0 && depth <= lists.length) {
        int rest = heap.cdr(lists[depth - 1]);
        if (rest != NIL) {
          put(' ');
          if (!isCons(rest)) {
            put('.');
            put(' ');
          }
          following = isCons(rest) ? heap.car(rest) : rest;
          // Behind a last cdr nothing comes: NIL has no cdr.
          lists[depth - 1] = isCons(rest) ? rest : NIL;
          return depth;
        }
        put(')');
        depth--;
      }
      return depth;
    }
  }

  /** The grid, the message and the cursor. */
  private static final class Screen {
    private static final int PLAIN = 0;
    private static final int BRIGHT = 8;
    final byte[] words = new byte[MOST_PRINTED];
    int told;
    int cursorRow;
    int cursorColumn;
    private final Desk desk;
    private final Panes panes;
    private final Script script;
    private final int rows;
    private final int columns;
    private final int[] grid;

    Screen(Desk desk, Panes panes, Script script, int rows, int columns) {
      this.desk = desk;
      this.panes = panes;
      this.script = script;
      this.rows = rows;
      this.columns = columns;
      grid = new int[rows * columns];
    }

    int at(int row, int column) {
      return row >= 0 && row < rows && column >= 0 && column < columns ? grid[row * columns + column] : NONE;
    }

    /** Makes the message of the first n signs of a row. */
    void tell(byte[] row, int n) {
      told = Math.max(0, Math.min(n, Math.min(row.length, MOST_PRINTED)));
      System.arraycopy(row, 0, words, 0, told);
    }

    void show() {
      Arrays.fill(grid, ' ');
      for (int k = 0; k < panes.count; k++) {
        drawPane(panes.leafAt(k));
      }
      int column = 0;
      for (int i = 0; i < told; i++) {
        column = drawSign(rows - 1, column, 0, columns, words[i], PLAIN);
      }
    }

    private void set(int row, int column, int sign, int face) {
      if (row >= 0 && row < rows && column >= 0 && column < columns) {
        grid[row * columns + column] = sign + face * 128;
      }
    }

    private static int widthOf(int sign, int column) {
      if (sign == 9) {
        return 8 - column % 8;
      }
      return sign < 32 || sign == 127 ? 2 : 1;
    }

    /** Draws a sign at a column counted from the left; what lies beyond the width is not drawn. */
    private int drawSign(int row, int column, int left, int width, int sign, int face) {
      int next = column + widthOf(sign, column);
      for (int at = column; at < next && at < width; at++) {
        int drawn = sign;
        if (sign == 9) {
          drawn = ' ';
        } else if (sign < 32 || sign == 127) {
          drawn = at == column ? '^' : sign ^ 64;
        }
        set(row, left + at, drawn, face);
      }
      return next;
    }

    private void drawPane(int leaf) {
      Text text = desk.text(panes.shows(leaf));
      int lines = panes.high(leaf) - 1;
      int width = panes.wide(leaf) - (panes.hasBar(leaf) ? 1 : 0);
      settle(leaf, text, lines);
      int at = panes.start(leaf);
      for (int i = 0; i < lines && at <= text.size + 1; i++) {
        drawLine(text, at, panes.top(leaf) + i, panes.left(leaf), width);
        at = text.lineEnd(at) + 1;
      }
      if (panes.hasBar(leaf)) {
        for (int i = 0; i < lines; i++) {
          set(panes.top(leaf) + i, panes.left(leaf) + width, '|', BRIGHT);
        }
      }
      drawModeLine(leaf, text);
      if (leaf == panes.chosen) {
        placeCursor(leaf, text, width);
      }
    }

    /** START goes to its line's beginning, or where point's line is shown. */
    private void settle(int leaf, Text text, int lines) {
      int start = text.lineStart(panes.start(leaf));
      int line = text.lineStart(panes.point(leaf));
      if (line < start || text.lines(start, line) >= lines) {
        start = line;
        for (int i = 0; i < lines / 2 && start > 1; i++) {
          start = text.lineStart(start - 1);
        }
      }
      panes.setStart(leaf, start);
    }

    private void drawLine(Text text, int from, int row, int left, int width) {
      int column = 0;
      int to = text.lineEnd(from);
      for (int at = from; at < to && column <= width; at++) {
        column = drawSign(row, column, left, width, text.after(at), text.faceAt(at));
      }
      if (column > width) {
        set(row, left + width - 1, '$', PLAIN);
      }
    }

    private void drawModeLine(int leaf, Text text) {
      int point = panes.point(leaf);
      script.clear();
      script.put('-');
      script.put(text.modified ? '*' : '-');
      script.put(' ');
      script.putRow(text.name, text.nameSize);
      script.putText(" L");
      script.putNumber(1 + text.lines(1, point));
      script.putText(" C");
      script.putNumber(point - text.lineStart(point));
      int row = panes.top(leaf) + panes.high(leaf) - 1;
      for (int i = 0; i < panes.wide(leaf); i++) {
        set(row, panes.left(leaf) + i, i < script.size && i < MOST_PRINTED ? script.signs[i] : '-', BRIGHT);
      }
    }

    private void placeCursor(int leaf, Text text, int width) {
      int point = panes.point(leaf);
      int column = 0;
      for (int at = text.lineStart(point); at < point; at++) {
        column += widthOf(text.after(at), column);
      }
      cursorRow = panes.top(leaf) + text.lines(panes.start(leaf), point);
      cursorColumn = panes.left(leaf) + Math.min(column, width - 1);
    }
  }

  /** The row of arguments: those of the call at hand lie at its end. */
  private static final class Args {
    int top;
    int count;
    private final Heap heap;
    private final Symbols names;
    private final Desk desk;
    private final int[] row;
    private int base;

    Args(Heap heap, Symbols names, Desk desk, int room) {
      this.heap = heap;
      this.names = names;
      this.desk = desk;
      row = new int[room];
    }

    void push(int v) {
      if (top >= 0 && top < row.length) {
        row[top] = v;
        top++;
      } else {
        heap.fail(HEAP_FULL, NIL);
      }
    }

    /** Puts all things of a list behind one another, as far as conses go. */
    void pushAll(int list) {
      int at = list;
      for (int n = 0; n <= MOST_CDRS && isCons(at); n++) {
        push(heap.car(at));
        at = heap.cdr(at);
      }
    }

    int at(int index) {
      return index >= 0 && index < top ? row[index] : NIL;
    }

    /** The arguments from there on are those of the call at hand. */
    void open(int from) {
      base = from;
      count = Math.max(0, top - from);
    }

    int get(int i) {
      return i >= 0 && i < count ? at(base + i) : NIL;
    }

    int integer(int i) {
      return intOf(get(i));
    }

    /** The list of the arguments from the i-th on, made at once. */
    int list(int i, int last) {
      return heap.list(row, base + i, count - i, last);
    }

    /** The list, made at once, of what was pushed from there on. */
    int listFrom(int from, int last) {
      return heap.list(row, from, top - from, last);
    }

    /** The list, made at once, of what was pushed from there on, the last one first. */
    int reversedFrom(int from) {
      for (int low = from, high = top - 1; low >= 0 && low < high && high < row.length; low++, high--) {
        int kept = row[low];
        row[low] = row[high];
        row[high] = kept;
      }
      return heap.list(row, from, top - from, NIL);
    }

    /** Looks at the arguments as a primitive wants them; false, with an error, if they are not so. */
    boolean fit(int code) {
      if (!names.takes(code, count)) {
        heap.fail(WRONG_NUMBER_OF_ARGS, names.primitive(code));
        return false;
      }
      for (int i = 0; i < count; i++) {
        if (!isKind(names.kind(code, i), get(i))) {
          heap.fail(WRONG_TYPE, get(i));
          return false;
        }
      }
      for (int i = 0; i < count; i++) {
        char kind = names.kind(code, i);
        boolean place = kind == 'p' || kind == 'P' && get(i) != NIL;
        if (place && (place(i) < 1 || place(i) > desk.text(desk.current).size + 1)) {
          heap.fail(OUT_OF_RANGE, get(i));
          return false;
        }
      }
      return true;
    }

    private boolean isKind(char kind, int v) {
      switch (kind) {
        case 'i': return isInt(v);
        case 's': return isString(v);
        case 'y': return isSymbol(v);
        case 'l': return heap.length(v) >= 0;
        case 'n': return v == NIL || isCons(v);
        case 'c': return isCons(v);
        case 'm': return (v & 7) == MARKER;
        case 'b': return bufferOf(v) >= 0;
        case 'p': return isPlace(v);
        case 'q': return isString(v) || heap.length(v) >= 0;
        case 'g': return isString(v) || isInt(v) && intOf(v) >= 0 && intOf(v) <= 127;
        case 'I': return v == NIL || isInt(v);
        case 'P': return v == NIL || isPlace(v);
        default: return true;
      }
    }

    private boolean isPlace(int v) {
      return isInt(v) || (v & 7) == MARKER && desk.home(heap.slot(v)) == desk.current;
    }

    /** The place that the i-th argument is. */
    int place(int i) {
      int v = get(i);
      return isInt(v) ? intOf(v) : desk.place(heap.slot(v));
    }

    /** The buffer that a value is or names; NONE if it is none. */
    int bufferOf(int v) {
      if ((v & 7) == BUFFER) {
        return v >> 3;
      }
      if (!isString(v) || heap.size(v) > MOST_NAME) {
        return NONE;
      }
      return desk.find(heap.pad, heap.toPad(v, 0));
    }
  }

  /** The primitives that need no editor: lists, numbers, symbols, strings. */
  private static final class Values {
    private final Heap heap;
    private final Symbols names;
    private final Args args;
    private final Script script;
    private final int[] pairs = new int[2 * MOST_CDRS];

    Values(Heap heap, Symbols names, Args args, Script script) {
      this.heap = heap;
      this.names = names;
      this.args = args;
      this.script = script;
    }

    int lists(int code) {
      int a = args.get(0);
      int b = args.get(1);
      switch (code) {
        case P_CONS: return heap.cons(a, b);
        case P_CAR: return heap.car(a);
        case P_CDR: return heap.cdr(a);
        case P_SETCAR:
          heap.setCar(a, b);
          return b;
        case P_SETCDR:
          heap.setCdr(a, b);
          return b;
        case P_LIST: return args.list(0, NIL);
        case P_NTH: return nth(intOf(a), b, true);
        case P_NTHCDR: return nth(intOf(a), b, false);
        case P_LENGTH: return number(isString(a) ? heap.size(a) : heap.length(a));
        case P_REVERSE: return copyOf(a, NIL, true);
        case P_APPEND: return copyOf(a, b, false);
        case P_MEMQ: return search(a, b, false, false);
        case P_MEMBER: return search(a, b, true, false);
        case P_ASSQ: return search(a, b, false, true);
        case P_ASSOC:
        default: return search(a, b, true, true);
      }
    }

    private int nth(int i, int list, boolean wantsCar) {
      int at = list;
      int n = Math.min(i, MOST_CDRS);
      for (int k = 0; k < n && at != NIL; k++) {
        if (!isCons(at)) {
          return heap.fail(WRONG_TYPE, at);
        }
        at = heap.cdr(at);
      }
      if (!wantsCar) {
        return at;
      }
      return at == NIL || isCons(at) ? heap.car(at) : heap.fail(WRONG_TYPE, at);
    }

    private int copyOf(int list, int last, boolean turned) {
      int from = args.top;
      args.pushAll(list);
      int made = turned ? args.reversedFrom(from) : args.listFrom(from, last);
      args.top = from;
      return made;
    }

    /** The list from the thing on that is EQ or EQUAL; or the first cons in it whose car is. */
    private int search(int wanted, int list, boolean deep, boolean pairsOnly) {
      int at = list;
      for (int n = 0; n <= MOST_CDRS && isCons(at); n++) {
        int thing = heap.car(at);
        boolean looks = !pairsOnly || isCons(thing);
        int other = pairsOnly ? heap.car(thing) : thing;
        if (looks && (wanted == other || deep && alike(wanted, other))) {
          return pairsOnly ? thing : at;
        }
        if (heap.trouble != NOTHING) {
          return NIL;
        }
        at = heap.cdr(at);
      }
      return NIL;
    }

    /** Whether two values are EQUAL; an error where too many conses would be compared. */
    private boolean alike(int one, int other) {
      int a = one;
      int b = other;
      int kept = 0;
      int compared = 0;
      for (int turn = 0; turn <= 2 * MOST_CDRS + 1; turn++) {
        if (a != b && isCons(a) && isCons(b)) {
          if (compared >= MOST_CDRS) {
            heap.fail(CIRCULAR, NIL);
            return false;
          }
          compared++;
          pairs[2 * kept] = heap.cdr(a);
          pairs[2 * kept + 1] = heap.cdr(b);
          kept++;
          a = heap.car(a);
          b = heap.car(b);
        } else if (a != b && !heap.sameSigns(a, b)) {
          return false;
        } else if (kept <= 0) {
          return true;
        } else {
          kept--;
          a = pairs[2 * kept];
          b = pairs[2 * kept + 1];
        }
      }
      return false;
    }

    int tests(int code) {
      int a = args.get(0);
      switch (code) {
        case P_EQ: return truth(a == args.get(1));
        case P_EQUAL: return truth(alike(a, args.get(1)));
        case P_NULL: return truth(a == NIL);
        case P_CONSP: return truth(isCons(a));
        case P_SYMBOLP: return truth(isSymbol(a));
        case P_INTP: return truth(isInt(a));
        case P_STRINGP:
        default: return truth(isString(a));
      }
    }

    int numbers(int code) {
      int a = args.integer(0);
      int b = args.integer(1);
      switch (code) {
        case P_PLUS: return number(sum(0));
        case P_TIMES: return number(product());
        case P_MINUS: return number(args.count == 1 ? -a : a - sum(1));
        case P_DIVIDE: return b == 0 ? heap.fail(ARITH, NIL) : number(a / b);
        case P_REST: return b == 0 ? heap.fail(ARITH, NIL) : number(a % b);
        case P_LESS: return truth(a < b);
        case P_MORE: return truth(a > b);
        case P_SAME: return truth(a == b);
        case P_LOGAND: return number(a & b);
        case P_LOGIOR: return number(a | b);
        case P_SHIFT:
        default: return number(b >= 0 ? a << Math.min(b, 27) : a >> Math.min(-b, 27));
      }
    }

    private int sum(int from) {
      int all = 0;
      for (int i = from; i < args.count; i++) {
        all += args.integer(i);
      }
      return all;
    }

    private int product() {
      int all = 1;
      for (int i = 0; i < args.count; i++) {
        all *= args.integer(i);
      }
      return all;
    }

    int symbols(int code) {
      int a = args.get(0);
      int b = args.get(1);
      switch (code) {
        case P_SET: return names.assign(a, b) ? b : NIL;
        case P_SYMBOL_VALUE: return names.value(a) == VOID ? heap.fail(VOID_VARIABLE, a) : names.value(a);
        case P_BOUNDP: return truth(names.value(a) != VOID);
        case P_FSET: return names.define(a, b) ? b : NIL;
        case P_SYMBOL_FUNCTION: return names.function(a);
        case P_SYMBOL_NAME: return heap.string(heap.pad, 0, names.nameToPad(a));
        case P_INTERN:
        default: return intern(a);
      }
    }

    private int intern(int string) {
      int n = heap.size(string);
      if (n < 1 || n > MOST_NAME) {
        return heap.fail(OUT_OF_RANGE, string);
      }
      int symbol = names.intern(heap.pad, 0, heap.toPad(string, 0));
      return symbol == VOID ? heap.fail(TOO_MANY_SYMBOLS, NIL) : symbol;
    }

    int strings(int code) {
      int a = args.get(0);
      int b = args.get(1);
      switch (code) {
        case P_CONCAT: return concat();
        case P_SUBSTRING: return substring(a, args.integer(1), args.integer(2));
        case P_STRING_SAME: return truth(heap.sameSigns(a, b));
        case P_STRING_LESS: return truth(isLess(a, b));
        case P_SIGN:
          return intOf(b) < 0 || intOf(b) >= heap.size(a) ? heap.fail(OUT_OF_RANGE, b) : number(heap.signAt(a, intOf(b)));
        case P_STRING: return oneSign(a);
        case P_NUMBER:
          int n = heap.toPad(a, 0);
          return isDigits(heap.pad, 0, n) ? numberOf(heap.pad, 0, n) : number(0);
        case P_PRINT:
        default:
          script.clear();
          script.print(a);
          return heap.string(script.signs, 0, script.size);
      }
    }

    private int concat() {
      int n = 0;
      for (int i = 0; i < args.count; i++) {
        if (heap.size(args.get(i)) > MOST_STRING - n) {
          return heap.fail(TOO_LONG, NIL);
        }
        n = heap.toPad(args.get(i), n);
      }
      return heap.string(heap.pad, 0, n);
    }

    private int substring(int string, int from, int to) {
      int n = heap.size(string);
      if (from < 0 || from > n) {
        return heap.fail(OUT_OF_RANGE, args.get(1));
      }
      if (to < from || to > n) {
        return heap.fail(OUT_OF_RANGE, args.get(2));
      }
      heap.toPad(string, 0);
      return heap.string(heap.pad, from, to - from);
    }

    private boolean isLess(int one, int other) {
      int n = Math.min(heap.size(one), heap.size(other));
      for (int i = 0; i < n; i++) {
        int difference = heap.signAt(one, i) - heap.signAt(other, i);
        if (difference != 0) {
          return difference < 0;
        }
      }
      return heap.size(one) < heap.size(other);
    }

    private int oneSign(int v) {
      if (intOf(v) < 0 || intOf(v) > 127) {
        return heap.fail(OUT_OF_RANGE, v);
      }
      heap.pad[0] = (byte) intOf(v);
      return heap.string(heap.pad, 0, 1);
    }
  }

  /** The primitives of the editor: buffers, places, maps of keys, windows. */
  private static final class Edits {
    private final Heap heap;
    private final Args args;
    private final Desk desk;
    private final Panes panes;
    private final Screen screen;

    Edits(Heap heap, Args args, Desk desk, Panes panes, Screen screen) {
      this.heap = heap;
      this.args = args;
      this.desk = desk;
      this.panes = panes;
      this.screen = screen;
    }

    private Text here() {
      return desk.text(desk.current);
    }

    private static int bufferValue(int b) {
      return b << 3 | BUFFER;
    }

    int buffers(int code) {
      Text text = here();
      int a = args.get(0);
      switch (code) {
        case P_BUFFER: return makeBuffer(a);
        case P_SET_BUFFER:
          desk.current = args.bufferOf(a);
          return bufferValue(desk.current);
        case P_CURRENT_BUFFER: return bufferValue(desk.current);
        case P_BUFFER_NAME:
          Text named = desk.text(args.bufferOf(a));
          return heap.string(named.name, 0, named.nameSize);
        case P_POINT: return number(text.point);
        case P_POINT_MAX: return number(text.size + 1);
        case P_GOTO_CHAR:
          text.point = args.place(0);
          return a;
        case P_INSERT:
          insertPad(text, collect(text));
          return NIL;
        case P_DELETE_REGION: return deleteRegion(text, firstPlace(), secondPlace());
        case P_REGION: return heap.string(text.signs, firstPlace() - 1, secondPlace() - firstPlace());
        case P_UNDO: return truth(desk.undo(desk.current, heap.pad));
        case P_BOUNDARY:
          text.addBoundary();
          return NIL;
        case P_MODIFIED: return truth(text.modified);
        case P_SET_MODIFIED:
        default:
          text.modified = a != NIL;
          return truth(text.modified);
      }
    }

    private int firstPlace() {
      return Math.min(args.place(0), args.place(1));
    }

    private int secondPlace() {
      return Math.max(args.place(0), args.place(1));
    }

    private int makeBuffer(int name) {
      int n = heap.size(name);
      if (n < 1 || n > MOST_NAME) {
        return heap.fail(OUT_OF_RANGE, name);
      }
      heap.toPad(name, 0);
      int b = desk.find(heap.pad, n);
      if (b < 0 && desk.count >= BUFFERS) {
        return heap.fail(TOO_MANY_BUFFERS, NIL);
      }
      if (b < 0) {
        b = desk.count;
        desk.count++;
        desk.text(b).setName(heap.pad, n);
      }
      return bufferValue(b);
    }

    /** Puts all that is to be inserted on the pad; answers how many signs, none with an error. */
    private int collect(Text text) {
      int n = 0;
      for (int i = 0; i < args.count; i++) {
        n += isString(args.get(i)) ? heap.size(args.get(i)) : 1;
      }
      if (n > TEXT - text.size) {
        heap.fail(BUFFER_FULL, NIL);
        return 0;
      }
      int at = 0;
      for (int i = 0; i < args.count && at < heap.pad.length; i++) {
        if (isString(args.get(i))) {
          at = heap.toPad(args.get(i), at);
        } else {
          heap.pad[at] = (byte) args.integer(i);
          at++;
        }
      }
      return n;
    }

    /** Inserts a key's sign, as insert does. */
    void insertSign(int sign) {
      if (here().size >= TEXT) {
        heap.fail(BUFFER_FULL, NIL);
        return;
      }
      heap.pad[0] = (byte) sign;
      insertPad(here(), 1);
    }

    private void insertPad(Text text, int n) {
      if (n > 0) {
        int at = text.point;
        text.addInsertion(at, n);
        desk.insert(desk.current, at, heap.pad, n);
        text.point = at + n;
      }
    }

    void beginTrip() {
      desk.beginTrip();
    }

    void endTrip() {
      desk.endTrip();
    }

    private int deleteRegion(Text text, int from, int to) {
      if (from < to) {
        text.addDeletion(from, to);
        desk.delete(desk.current, from, to);
      }
      return NIL;
    }

    int moves(int code) {
      Text text = here();
      int a = args.get(0);
      int place = a == NIL ? text.point : args.place(0);
      int many = a == NIL ? 1 : args.integer(0);
      switch (code) {
        case P_CHAR_AFTER: return signOrNil(text.after(place));
        case P_CHAR_BEFORE: return signOrNil(text.after(place - 1));
        case P_BOLP: return truth(text.lineStart(text.point) == text.point);
        case P_EOLP: return truth(text.lineEnd(text.point) == text.point);
        case P_FORWARD_CHAR: return forwardChar(text, many);
        case P_FORWARD_LINE: return number(many > 0 ? linesDown(text, many) : linesUp(text, -many));
        case P_BEGINNING_OF_LINE:
          text.point = text.lineStart(text.point);
          return NIL;
        case P_END_OF_LINE:
          text.point = text.lineEnd(text.point);
          return NIL;
        case P_SEARCH_FORWARD: return searchForward(text, a);
        case P_SEARCH_BACKWARD: return searchBackward(text, a);
        case P_SKIP_FORWARD: return skipForward(text, a);
        case P_COLUMN: return number(text.point - text.lineStart(text.point));
        case P_LINE:
        default: return number(1 + text.lines(1, text.point));
      }
    }

    private static int signOrNil(int sign) {
      return sign < 0 ? NIL : number(sign);
    }

    private int forwardChar(Text text, int many) {
      int to = text.point + many;
      text.point = Math.max(1, Math.min(to, text.size + 1));
      if (to > text.size + 1) {
        return heap.fail(END_OF_BUFFER, NIL);
      }
      return to < 1 ? heap.fail(BEGINNING_OF_BUFFER, NIL) : NIL;
    }

    /** Goes lines down as far as it can; answers how many it could not. */
    private int linesDown(Text text, int many) {
      int left = many;
      int end = text.lineEnd(text.point);
      while (left > 0 && end <= text.size) {
        left--;
        text.point = end + 1;
        end = text.lineEnd(text.point);
      }
      if (left > 0) {
        text.point = text.size + 1;
      }
      return left;
    }

    private int linesUp(Text text, int many) {
      int left = many;
      int at = text.lineStart(text.point);
      while (left > 0 && at > 1) {
        left--;
        at = text.lineStart(at - 1);
      }
      text.point = at;
      return left;
    }

    private boolean stands(Text text, int place, int n) {
      for (int i = 0; i < n && i < heap.pad.length; i++) {
        if (text.after(place + i) != heap.pad[i]) {
          return false;
        }
      }
      return true;
    }

    private int searchForward(Text text, int string) {
      int n = heap.toPad(string, 0);
      for (int at = text.point; at + n <= text.size + 1; at++) {
        if (stands(text, at, n)) {
          text.point = at + n;
          return number(at + n);
        }
      }
      return args.get(1) != NIL ? NIL : heap.fail(SEARCH_FAILED, string);
    }

    private int searchBackward(Text text, int string) {
      int n = heap.toPad(string, 0);
      for (int at = text.point - n; at >= 1; at--) {
        if (stands(text, at, n)) {
          text.point = at;
          return number(at);
        }
      }
      return args.get(1) != NIL ? NIL : heap.fail(SEARCH_FAILED, string);
    }

    private int skipForward(Text text, int string) {
      int from = text.point;
      int n = heap.toPad(string, 0);
      while (text.point <= text.size && isOnPad(text.after(text.point), n)) {
        text.point++;
      }
      return number(text.point - from);
    }

    private boolean isOnPad(int sign, int n) {
      for (int i = 0; i < n && i < heap.pad.length; i++) {
        if (heap.pad[i] == sign) {
          return true;
        }
      }
      return false;
    }

    int marks(int code) {
      Text text = here();
      int a = args.get(0);
      switch (code) {
        case P_MARKER: return makeMarker(args.place(0));
        case P_SET_MARKER:
          desk.setPlace(heap.slot(a), desk.current, args.place(1));
          return a;
        case P_MARKER_PLACE: return number(desk.place(heap.slot(a)));
        case P_MARKER_MOVES:
          desk.setMoves(heap.slot(a), args.get(1) != NIL);
          return args.get(1);
        case P_PUT_FACE:
          if (args.integer(2) < 0 || args.integer(2) > 7) {
            return heap.fail(OUT_OF_RANGE, args.get(2));
          }
          text.setFaces(firstPlace(), secondPlace(), args.integer(2));
          return NIL;
        case P_FACE: return number(text.faceAt(args.place(0)));
        case P_MAKE_MAP: return heap.cons(KEYMAP, NIL);
        case P_DEFINE_KEY: return defineKey(a, args.get(1), args.get(2));
        case P_LOOKUP_KEY: return lookUp(a, args.get(1));
        case P_USE_MAP:
        default:
          if (a != NIL && !isMap(a)) {
            return heap.fail(WRONG_TYPE, a);
          }
          text.map = a;
          return a;
      }
    }

    private int makeMarker(int place) {
      int slot = desk.freeMarker();
      if (slot < 0) {
        return heap.fail(TOO_MANY_MARKERS, NIL);
      }
      int made = heap.marker(slot);
      if (heap.trouble == NOTHING) {
        desk.setPlace(slot, desk.current, place);
        desk.setMoves(slot, false);
      }
      return made;
    }

    boolean isMap(int v) {
      return isCons(v) && heap.car(v) == KEYMAP && heap.length(v) >= 0;
    }

    /** The cons in a map that binds a sign; NIL if there is none. */
    private int bindingCell(int map, int sign) {
      int at = heap.cdr(map);
      for (int n = 0; n <= MOST_CDRS && isCons(at); n++) {
        int thing = heap.car(at);
        if (isCons(thing) && heap.car(thing) == number(sign)) {
          return thing;
        }
        at = heap.cdr(at);
      }
      return NIL;
    }

    private void setBinding(int map, int sign, int to) {
      int cell = bindingCell(map, sign);
      if (isCons(cell)) {
        heap.setCdr(cell, to);
      } else if (heap.free() < 2) {
        heap.fail(HEAP_FULL, NIL);
      } else {
        heap.setCdr(map, heap.cons(heap.cons(number(sign), to), heap.cdr(map)));
      }
    }

    private int defineKey(int map, int string, int to) {
      int n = heap.size(string);
      if (!isMap(map)) {
        return heap.fail(WRONG_TYPE, map);
      }
      if (n < 1) {
        return heap.fail(OUT_OF_RANGE, string);
      }
      int at = map;
      for (int i = 0; i < n - 1 && heap.trouble == NOTHING; i++) {
        int next = heap.cdr(bindingCell(at, heap.signAt(string, i)));
        if (!isMap(next)) {
          next = heap.cons(KEYMAP, NIL);
          if (heap.trouble == NOTHING) {
            setBinding(at, heap.signAt(string, i), next);
          }
        }
        at = next;
      }
      if (heap.trouble == NOTHING) {
        setBinding(at, heap.signAt(string, n - 1), to);
      }
      return to;
    }

    private int lookUp(int map, int string) {
      int n = heap.size(string);
      int at = n > 0 ? map : NIL;
      for (int i = 0; i < n; i++) {
        at = isMap(at) ? heap.cdr(bindingCell(at, heap.signAt(string, i))) : NIL;
      }
      return at;
    }

    /** The binding to which a row of keys leads; NIL if that can't be. */
    int goAlong(int map, int[] keys, int n) {
      int at = map;
      for (int i = 0; i < n && i < keys.length; i++) {
        at = isMap(at) ? heap.cdr(bindingCell(at, keys[i])) : NIL;
      }
      return at;
    }

    int windows(int code) {
      int a = args.get(0);
      switch (code) {
        case P_SPLIT_BELOW: return truth(panes.splitBelow());
        case P_SPLIT_RIGHT: return truth(panes.splitRight());
        case P_OTHER_WINDOW: return truth(panes.chooseNext());
        case P_DELETE_WINDOW: return truth(panes.deleteChosen());
        case P_DELETE_OTHER_WINDOWS: return truth(panes.deleteOthers());
        case P_SHOW_BUFFER:
          panes.show(args.bufferOf(a));
          return bufferValue(desk.current);
        case P_WINDOW_START: return number(panes.start(panes.chosen));
        case P_SET_WINDOW_START:
          if (panes.shows(panes.chosen) != desk.current) {
            return NIL;
          }
          panes.setStart(panes.chosen, args.place(0));
          return a;
        case P_MESSAGE:
        default:
          screen.tell(heap.pad, heap.toPad(a, 0));
          return a;
      }
    }
  }

  /** Evaluation, without recursion: what is under way lies in frames, and each frame is one LEVEL. */
  private static final class Machine {
    // What the next turn does.
    private static final int DONE = 0;
    private static final int EVALUATE = 1;
    private static final int CALL = 2;
    private static final int GO_ON = 3;
    private static final int GIVE = 4;

    // The fields of a frame. AT is the cons last come to.
    private static final int KIND = 0;
    private static final int FORM = 1;
    private static final int AT = 2;
    private static final int WORD = 3;
    private static final int BASE = 4;
    private static final int BOUND = 5;
    private static final int EXTRA = 6;
    private static final int COUNT = 7;
    private static final int FIRST = 8;
    private static final int LAST = 9;
    private static final int WIDTH = 10;

    // What a frame is doing.
    private static final int PASSING = 0;
    private static final int ARGUMENTS = 1;
    private static final int EXPANDING = 2;
    private static final int BODY = 3;
    private static final int SETTING = 4;
    private static final int CHOOSING = 5;
    private static final int CLAUSES = 6;
    private static final int TESTING = 7;
    private static final int LOOPING = 8;
    private static final int ALL_OF = 9;
    private static final int ONE_OF = 10;
    private static final int ENTRIES = 11;
    private static final int ENTRIES_IN_TURN = 12;
    private static final int DEFINING = 13;
    private static final int TAGGING = 14;
    private static final int CATCHING = 15;
    private static final int HANDLING = 16;
    private static final int PROTECTING = 17;
    private static final int CLEANING = 18;
    private static final int TRAVELLING = 19;
    private static final int MAPPING = 20;

    int steps;
    private final Heap heap;
    private final Symbols names;
    private final Args args;
    private final Values values;
    private final Edits edits;
    private final int fuel;
    private final int depth;
    private final int[] frames;
    private int height;
    private int mode;
    private int value;
    private int callee;
    private int callBase;

    Machine(Heap heap, Symbols names, Args args, Values values, Edits edits, int fuel, int depth) {
      this.heap = heap;
      this.names = names;
      this.args = args;
      this.values = values;
      this.edits = edits;
      this.fuel = fuel;
      this.depth = depth;
      frames = new int[depth * WIDTH];
    }

    void begin() {
      steps = 0;
      height = 0;
      args.top = 0;
      mode = DONE;
    }

    /** Has a value evaluated from the next turn on. */
    void evaluate(int v) {
      value = v;
      mode = EVALUATE;
    }

    /** Has a value called with nothing, as by funcall but without its level. */
    void callWithNothing(int v) {
      args.top = 0;
      callBase = 0;
      callNamed(v);
    }

    /** Turns until all is over; where an error or throwing is under way, a turn is to leave a frame. */
    void spin() {
      for (int turn = 0; turn < TURNS && mode != DONE; turn++) {
        if (heap.trouble != NOTHING) {
          leave();
        } else if (mode == EVALUATE) {
          takeStep();
        } else if (mode == CALL) {
          call();
        } else if (mode == GO_ON) {
          goOn();
        } else {
          take();
        }
      }
    }

    private int get(int field) {
      int at = (height - 1) * WIDTH + field;
      return at >= 0 && at < frames.length ? frames[at] : NIL;
    }

    private void put(int field, int v) {
      int at = (height - 1) * WIDTH + field;
      if (at >= 0 && at < frames.length) {
        frames[at] = v;
      }
    }

    private void failForm() {
      heap.fail(BAD_FORM, get(FORM));
    }

    /** Puts a frame for something that is a LEVEL; false, with an error, if it would be one too many. */
    private boolean push(int kind, int form, int base) {
      if (height >= depth) {
        heap.fail(DEPTH, NIL);
        return false;
      }
      height++;
      put(KIND, kind);
      put(FORM, form);
      put(AT, form);
      put(BASE, base);
      put(BOUND, names.bound);
      put(COUNT, 0);
      return true;
    }

    /** The frame is over and gives a value to the one below. */
    private void finish(int v) {
      names.unbind(get(BOUND));
      args.top = get(BASE);
      height--;
      value = v;
      mode = GIVE;
    }

    private void takeStep() {
      if (steps >= fuel) {
        heap.fail(FUEL, NIL);
        return;
      }
      steps++;
      if (isCons(value)) {
        beginForm(value);
      } else if (isSymbol(value) && names.value(value) == VOID) {
        heap.fail(VOID_VARIABLE, value);
      } else {
        value = isSymbol(value) ? names.value(value) : value;
        mode = GIVE;
      }
    }

    private void beginForm(int form) {
      if (!push(PASSING, form, args.top)) {
        return;
      }
      int things = heap.length(form);
      int head = heap.car(form);
      if (things < 0) {
        failForm();
      } else if (isSymbol(head) && head >= QUOTE && head <= SAVE_EXCURSION) {
        if (isAsTold(form, head, things)) {
          beginSpecial(form, head);
        } else {
          failForm();
        }
      } else {
        beginCall(form, head);
      }
    }

    private void beginCall(int form, int head) {
      int function = functionOf(head);
      if (function == NIL) {
        heap.fail(VOID_FUNCTION, head);
      } else if (heap.car(function) == MACRO) {
        put(KIND, EXPANDING);
        callBase = args.top;
        args.pushAll(heap.cdr(form));
        callee = heap.cdr(function);
        mode = CALL;
      } else {
        put(KIND, ARGUMENTS);
        put(WORD, function);
        mode = GO_ON;
      }
    }

    /** What can be called: a primitive's symbol, a lambda list, a macro; NIL if there is nothing. */
    private int functionOf(int head) {
      if (isCons(head)) {
        return heap.car(head) == LAMBDA ? head : NIL;
      }
      int function = names.function(head);
      if (isSymbol(function)) {
        return names.code(function) >= 0 ? function : NIL;
      }
      boolean lambda = heap.car(function) == LAMBDA;
      boolean macro = heap.car(function) == MACRO && heap.car(heap.cdr(function)) == LAMBDA;
      return lambda || macro ? function : NIL;
    }

    /** Calls what a value names, with the arguments from callBase on, as funcall does. */
    private void callNamed(int v) {
      callee = functionOf(v);
      mode = CALL;
      if (callee == NIL || heap.car(callee) == MACRO) {
        heap.fail(VOID_FUNCTION, v);
      }
    }

    private void call() {
      if (isCons(callee)) {
        callLambda(callee);
        return;
      }
      int code = names.code(callee);
      args.open(callBase);
      if (!args.fit(code)) {
        return;
      }
      if (code < FIRST_LIST) {
        control(code);
        return;
      }
      if (code < FIRST_TEST) {
        value = values.lists(code);
      } else if (code < FIRST_NUMBER) {
        value = values.tests(code);
      } else if (code < FIRST_SYMBOL) {
        value = values.numbers(code);
      } else if (code < FIRST_STRING) {
        value = values.symbols(code);
      } else if (code < FIRST_BUFFER) {
        value = values.strings(code);
      } else if (code < FIRST_MOVE) {
        value = edits.buffers(code);
      } else if (code < FIRST_MARK) {
        value = edits.moves(code);
      } else if (code < FIRST_WINDOW) {
        value = edits.marks(code);
      } else {
        value = edits.windows(code);
      }
      args.top = callBase;
      mode = GIVE;
    }

    /** The primitives that call, evaluate, or leave. */
    private void control(int code) {
      int a = args.get(0);
      int b = args.get(1);
      switch (code) {
        case P_FUNCALL:
          if (push(PASSING, NIL, callBase)) {
            callBase++;
            callNamed(a);
          }
          break;
        case P_APPLY:
          if (push(PASSING, NIL, callBase)) {
            args.top = callBase;
            args.pushAll(b);
            callNamed(a);
          }
          break;
        case P_EVAL:
          if (push(PASSING, NIL, callBase)) {
            args.top = callBase;
            evaluate(a);
          }
          break;
        case P_MAPCAR:
          if (push(MAPPING, NIL, callBase)) {
            beginMapping(a, b);
          }
          break;
        case P_THROW:
          throwTo(a, b);
          break;
        case P_SIGNAL:
          heap.fail(a, b);
          break;
        case P_ERROR:
        default:
          heap.fail(ERROR, a);
          break;
      }
    }

    private void beginMapping(int function, int list) {
      args.top = callBase;
      args.pushAll(list);
      put(WORD, function);
      put(EXTRA, 0);
      put(COUNT, args.top - callBase);
      put(FIRST, NIL);
      put(LAST, NIL);
      mode = GO_ON;
    }

    private void throwTo(int tag, int thrown) {
      for (int i = height - 1; i >= 0; i--) {
        if (frames[i * WIDTH + KIND] == CATCHING && frames[i * WIDTH + WORD] == tag) {
          heap.trouble = THROWN;
          heap.cause = tag;
          heap.datum = thrown;
          return;
        }
      }
      heap.fail(NO_CATCH, tag);
    }

    private void callLambda(int lambda) {
      if (!push(BODY, lambda, callBase)) {
        return;
      }
      args.open(callBase);
      int parameters = heap.car(heap.cdr(lambda));
      if (heap.length(lambda) < 2) {
        heap.fail(BAD_FORM, lambda);
      } else if (!areParameters(parameters)) {
        heap.fail(BAD_FORM, parameters);
      } else if (!isRightNumber(parameters)) {
        heap.fail(WRONG_NUMBER_OF_ARGS, lambda);
      } else {
        bindParameters(parameters);
        args.top = callBase;
        put(AT, heap.cdr(lambda));
        value = NIL;
        mode = GO_ON;
      }
    }

    private boolean areParameters(int parameters) {
      int n = heap.length(parameters);
      boolean optional = false;
      int at = parameters;
      for (int i = 0; i < n && n <= MOST_BOUND; i++) {
        int word = heap.car(at);
        at = heap.cdr(at);
        if (!isSymbol(word) || word == NIL || word == T || word == OPTIONAL && optional) {
          return false;
        }
        optional = optional || word == OPTIONAL;
        int behind = heap.car(at);
        if (word == REST && (i != n - 2 || behind == OPTIONAL || behind == REST)) {
          return false;
        }
      }
      return n >= 0 && n <= MOST_BOUND;
    }

    private boolean isRightNumber(int parameters) {
      int least = 0;
      int most = 0;
      boolean optional = false;
      int at = parameters;
      for (int i = 0; i < MOST_BOUND && isCons(at); i++) {
        int word = heap.car(at);
        if (word == REST) {
          return args.count >= least;
        }
        if (word == OPTIONAL) {
          optional = true;
        } else {
          most++;
          least += optional ? 0 : 1;
        }
        at = heap.cdr(at);
      }
      return args.count >= least && args.count <= most;
    }

    private void bindParameters(int parameters) {
      int at = parameters;
      int taken = 0;
      boolean rest = false;
      for (int i = 0; i < MOST_BOUND && isCons(at); i++) {
        int word = heap.car(at);
        at = heap.cdr(at);
        if (word == REST) {
          rest = true;
        } else if (word != OPTIONAL) {
          names.bind(word, rest ? args.list(taken, NIL) : args.get(taken));
          taken++;
        }
      }
    }

    /** Whether a special form has what is told of it, but for what is evaluated. */
    private boolean isAsTold(int form, int head, int things) {
      int second = heap.car(heap.cdr(form));
      switch (head) {
        case QUOTE: return things == 2;
        case SETQ: return things % 2 == 1 && areSymbols(heap.cdr(form));
        case IF: return things >= 3;
        case COND: return areClauses(heap.cdr(form));
        case WHILE:
        case CATCH:
        case UNWIND_PROTECT: return things >= 2;
        case LET:
        case LET_STAR: return things >= 2 && areEntries(second);
        case DEFUN:
        case DEFMACRO: return things >= 3 && isSymbol(second);
        case DEFVAR: return things == 3 && isSymbol(second);
        case CONDITION_CASE:
          return things >= 3 && isSymbol(second) && areClauses(heap.cdr(heap.cdr(heap.cdr(form))));
        default: return true;
      }
    }

    private boolean areSymbols(int pairs) {
      int at = pairs;
      for (int n = 0; n <= MOST_CDRS && isCons(at); n++) {
        if (!isSymbol(heap.car(at))) {
          return false;
        }
        at = heap.cdr(heap.cdr(at));
      }
      return true;
    }

    private boolean areClauses(int clauses) {
      int at = clauses;
      for (int n = 0; n <= MOST_CDRS && isCons(at); n++) {
        if (heap.length(heap.car(at)) < 1) {
          return false;
        }
        at = heap.cdr(at);
      }
      return true;
    }

    private boolean areEntries(int entries) {
      int things = heap.length(entries);
      int at = entries;
      for (int n = 0; n < things && n < MOST_BOUND; n++) {
        if (!isEntry(heap.car(at))) {
          return false;
        }
        at = heap.cdr(at);
      }
      return things >= 0 && things <= MOST_BOUND;
    }

    private boolean isEntry(int entry) {
      if (isSymbol(entry)) {
        return true;
      }
      int things = isSymbol(heap.car(entry)) ? heap.length(entry) : NONE;
      return things == 1 || things == 2;
    }

    private void beginSpecial(int form, int head) {
      int second = heap.cdr(form);
      mode = GO_ON;
      value = NIL;
      switch (head) {
        case QUOTE:
          finish(heap.car(second));
          break;
        case LAMBDA:
          finish(form);
          break;
        case SETQ:
          put(KIND, SETTING);
          break;
        case COND:
          put(KIND, CLAUSES);
          break;
        case PROGN:
          put(KIND, BODY);
          break;
        case AND:
          put(KIND, ALL_OF);
          value = T;
          break;
        case OR:
          put(KIND, ONE_OF);
          break;
        case LET:
        case LET_STAR:
          put(KIND, head == LET ? ENTRIES : ENTRIES_IN_TURN);
          put(WORD, second);
          put(AT, NIL);
          break;
        case DEFUN:
        case DEFMACRO:
          defineFunction(head, heap.car(second), heap.cdr(second));
          break;
        case SAVE_EXCURSION:
          put(KIND, TRAVELLING);
          edits.beginTrip();
          break;
        default:
          beginWithEvaluation(head, second);
          break;
      }
    }

    /** The special forms whose first thing, or second, is evaluated at once. */
    private void beginWithEvaluation(int head, int second) {
      int third = heap.cdr(second);
      put(AT, second);
      put(WORD, second);
      evaluate(heap.car(second));
      switch (head) {
        case IF:
          put(KIND, CHOOSING);
          break;
        case WHILE:
          put(KIND, TESTING);
          break;
        case CATCH:
          put(KIND, TAGGING);
          break;
        case UNWIND_PROTECT:
          put(KIND, PROTECTING);
          break;
        case CONDITION_CASE:
          put(KIND, HANDLING);
          put(WORD, heap.car(second));
          put(AT, third);
          evaluate(heap.car(third));
          break;
        default:
          put(KIND, DEFINING);
          put(WORD, heap.car(second));
          if (names.value(heap.car(second)) == VOID) {
            evaluate(heap.car(third));
          } else {
            finish(heap.car(second));
          }
          break;
      }
    }

    private void defineFunction(int head, int word, int rest) {
      if (word == NIL || word == T) {
        heap.fail(CONSTANT, word);
        return;
      }
      if (heap.free() < (head == DEFMACRO ? 2 : 1)) {
        heap.fail(HEAP_FULL, NIL);
        return;
      }
      int lambda = heap.cons(LAMBDA, rest);
      names.define(word, head == DEFMACRO ? heap.cons(MACRO, lambda) : lambda);
      finish(word);
    }

    /** Goes on to the next thing of the frame. */
    private void goOn() {
      switch (get(KIND)) {
        case ARGUMENTS:
          nextArgument();
          break;
        case SETTING:
          nextPair();
          break;
        case CLAUSES:
          nextClause();
          break;
        case ENTRIES:
        case ENTRIES_IN_TURN:
          nextEntries();
          break;
        case MAPPING:
          nextMapping();
          break;
        default:
          nextInBody();
          break;
      }
    }

    private void nextArgument() {
      int next = heap.cdr(get(AT));
      if (isCons(next)) {
        put(AT, next);
        evaluate(heap.car(next));
      } else {
        put(KIND, PASSING);
        callee = get(WORD);
        callBase = get(BASE);
        mode = CALL;
      }
    }

    private void nextPair() {
      int next = heap.cdr(get(AT));
      int behind = heap.cdr(next);
      if (!isCons(next)) {
        finish(value);
      } else if (!isSymbol(heap.car(next)) || !isCons(behind)) {
        failForm();
      } else {
        put(WORD, heap.car(next));
        put(AT, behind);
        evaluate(heap.car(behind));
      }
    }

    private void nextClause() {
      int next = heap.cdr(get(AT));
      int clause = heap.car(next);
      if (!isCons(next)) {
        finish(NIL);
      } else if (heap.length(clause) < 1) {
        failForm();
      } else {
        put(AT, next);
        put(WORD, clause);
        evaluate(heap.car(clause));
      }
    }

    /** Goes along the entries of let up to one with something to evaluate, or to their end. */
    private void nextEntries() {
      int at = isCons(get(AT)) ? heap.cdr(get(AT)) : heap.car(get(WORD));
      for (int n = 0; n <= MOST_BOUND && isCons(at); n++) {
        int entry = heap.car(at);
        if (get(COUNT) >= MOST_BOUND || !isEntry(entry)) {
          failForm();
          return;
        }
        put(AT, at);
        put(COUNT, get(COUNT) + 1);
        put(EXTRA, isCons(entry) ? heap.car(entry) : entry);
        if (isCons(heap.cdr(entry))) {
          evaluate(heap.car(heap.cdr(entry)));
          return;
        }
        if (!keepEntry(NIL)) {
          return;
        }
        at = heap.cdr(at);
      }
      endEntries();
    }

    /** let keeps a value until all are there, let* binds it at once; false with an error. */
    private boolean keepEntry(int v) {
      if (get(KIND) == ENTRIES) {
        args.push(get(EXTRA));
        args.push(v);
      } else {
        names.bind(get(EXTRA), v);
      }
      return heap.trouble == NOTHING;
    }

    private void endEntries() {
      int to = args.top;
      for (int i = get(BASE); i + 1 < to; i += 2) {
        if (!names.bind(args.at(i), args.at(i + 1))) {
          return;
        }
      }
      args.top = get(BASE);
      beginBody(get(WORD));
    }

    /** The frame evaluates what stands behind a cons, form by form, from the next turn on. */
    private void beginBody(int behind) {
      put(KIND, BODY);
      put(AT, behind);
      value = NIL;
      mode = GO_ON;
    }

    private void nextMapping() {
      int i = get(EXTRA);
      if (i >= get(COUNT)) {
        finish(get(FIRST));
        return;
      }
      put(EXTRA, i + 1);
      args.push(args.at(get(BASE) + i));
      callBase = args.top - 1;
      callNamed(get(WORD));
    }

    private void nextInBody() {
      int next = heap.cdr(get(AT));
      if (isCons(next)) {
        put(AT, next);
        evaluate(heap.car(next));
        return;
      }
      switch (get(KIND)) {
        case LOOPING:
          put(KIND, TESTING);
          evaluate(heap.car(get(WORD)));
          break;
        case TRAVELLING:
          edits.endTrip();
          finish(value);
          break;
        case CLEANING:
          endCleaning();
          break;
        default:
          finish(value);
          break;
      }
    }

    /** What was under way when the cleaning began goes on. */
    private void endCleaning() {
      if (get(COUNT) == NOTHING) {
        finish(get(LAST));
        return;
      }
      heap.trouble = get(COUNT);
      heap.cause = get(FIRST);
      heap.datum = get(LAST);
    }

    /** The frame takes the value of what it had evaluated or called. */
    private void take() {
      if (height <= 0) {
        mode = DONE;
        return;
      }
      mode = GO_ON;
      switch (get(KIND)) {
        case PASSING:
        case HANDLING:
          finish(value);
          break;
        case EXPANDING:
          put(KIND, PASSING);
          evaluate(value);
          break;
        case ARGUMENTS:
          args.push(value);
          break;
        case ALL_OF:
          if (value == NIL) {
            finish(NIL);
          }
          break;
        case ONE_OF:
          if (value != NIL) {
            finish(value);
          }
          break;
        case ENTRIES:
        case ENTRIES_IN_TURN:
          keepEntry(value);
          break;
        case MAPPING:
          takeMapped();
          break;
        default:
          takeInForm();
          break;
      }
    }

    private void takeInForm() {
      switch (get(KIND)) {
        case SETTING:
          names.assign(get(WORD), value);
          break;
        case DEFINING:
          names.assign(get(WORD), value);
          finish(get(WORD));
          break;
        case CHOOSING:
          choose();
          break;
        case CLAUSES:
          if (value != NIL) {
            put(KIND, BODY);
            put(AT, get(WORD));
          }
          break;
        case TESTING:
          if (value == NIL) {
            finish(NIL);
          } else {
            put(KIND, LOOPING);
            put(AT, get(WORD));
          }
          break;
        case TAGGING:
          put(KIND, CATCHING);
          put(WORD, value);
          value = NIL;
          break;
        case PROTECTING:
          beginCleaning(NOTHING, NIL, value);
          break;
        default:
          break;
      }
    }

    private void choose() {
      int next = heap.cdr(get(AT));
      if (!isCons(next)) {
        failForm();
      } else if (value != NIL) {
        put(KIND, PASSING);
        evaluate(heap.car(next));
      } else {
        beginBody(next);
      }
    }

    private void takeMapped() {
      int made = heap.cons(value, NIL);
      if (get(FIRST) == NIL) {
        put(FIRST, made);
      } else {
        heap.setCdr(get(LAST), made);
      }
      put(LAST, made);
    }

    private void beginCleaning(int trouble, int cause, int datum) {
      put(KIND, CLEANING);
      put(COUNT, trouble);
      put(FIRST, cause);
      put(LAST, datum);
      heap.trouble = NOTHING;
      mode = GO_ON;
    }

    /** An error or throwing leaves the frame, or is held by it. */
    private void leave() {
      if (height <= 0) {
        mode = DONE;
        return;
      }
      int kind = get(KIND);
      boolean thrown = heap.trouble == THROWN;
      boolean handled = thrown || heap.cause != FUEL;
      names.unbind(get(BOUND));
      args.top = get(BASE);
      if (kind == CATCHING && thrown && get(WORD) == heap.cause) {
        heap.trouble = NOTHING;
        finish(heap.datum);
      } else if (kind == HANDLING && !thrown && handled) {
        handle();
      } else if (kind == PROTECTING && handled) {
        beginCleaning(heap.trouble, heap.cause, heap.datum);
      } else {
        if (kind == TRAVELLING) {
          edits.endTrip();
        }
        height--;
      }
    }

    /** Looks for the clause of condition-case that fits; the frame is left without one. */
    private void handle() {
      int next = heap.cdr(get(AT));
      for (int n = 0; n < MOST_CDRS && isCons(next); n++) {
        int clause = heap.car(next);
        if (heap.length(clause) < 1) {
          break;
        }
        if (fits(heap.car(clause), heap.cause)) {
          beginHandler(clause);
          return;
        }
        next = heap.cdr(next);
      }
      put(KIND, PASSING);
      if (isCons(next)) {
        failForm();
      }
    }

    private static boolean fitsOne(int word, int condition) {
      return word == condition || word == ERROR;
    }

    private boolean fits(int words, int condition) {
      int at = words;
      for (int n = 0; n < MOST_CDRS && isCons(at); n++) {
        if (fitsOne(heap.car(at), condition)) {
          return true;
        }
        at = heap.cdr(at);
      }
      return !isCons(words) && fitsOne(words, condition);
    }

    private void beginHandler(int clause) {
      int word = get(WORD);
      heap.trouble = NOTHING;
      beginBody(clause);
      if (word != NIL) {
        int told = heap.cons(heap.cause, heap.datum);
        if (heap.trouble == NOTHING) {
          names.bind(word, told);
        }
      }
    }
  }
}
