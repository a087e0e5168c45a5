import java.lang.reflect.InvocationTargetException;
import java.lang.reflect.Method;
import java.lang.reflect.Modifier;
import java.util.ArrayDeque;

/** Makes the same call on a FlashFiles and on the Model and compares the answers. */
final class Pair {
  static final String[] CALLS = {
    "format", "feed", "tape", "make", "makeDirectory", "link", "unlink", "removeDirectory", "rename",
    "find", "write", "read", "byteAt", "truncate", "fsync", "sync", "name", "look", "count", "power",
    "cut", "mount", "clean", "faults"
  };
  static final int FORMAT = 0, FEED = 1, TAPE = 2, MAKE = 3, MAKE_DIRECTORY = 4, LINK = 5, UNLINK = 6,
      REMOVE_DIRECTORY = 7, RENAME = 8, FIND = 9, WRITE = 10, READ = 11, BYTE_AT = 12, TRUNCATE = 13,
      FSYNC = 14, SYNC = 15, NAME = 16, LOOK = 17, COUNT = 18, POWER = 19, CUT = 20, MOUNT = 21,
      CLEAN = 22, FAULTS = 23;
  static final long THREW_ARGUMENT = 1L << 40;
  static final long THREW_STATE = 2L << 40;
  static final long THREW_UNSUPPORTED = 3L << 40;

  private static final Method[] OF_REAL = new Method[CALLS.length];
  private static final Method[] OF_MODEL = new Method[CALLS.length];

  final FlashFiles real = new FlashFiles();
  final Model model = new Model();
  final String label;
  int calls;
  int wrong;
  private final ArrayDeque<String> latest = new ArrayDeque<>();

  Pair(String label) {
    this.label = label;
  }

  /** The answer, or which exception came. */
  long call(int op, int... given) {
    long want = answer(model, op, given);
    long got = answer(real, op, given);
    calls++;
    note(op, given, want);
    if (got != want && wrong++ == 0) {
      System.out.println(label + ", call " + calls + ": got " + said(got) + ", due is the last of:");
      for (String line : latest) {
        System.out.println("  " + line);
      }
    }
    return want;
  }

  private void note(int op, int[] given, long answer) {
    StringBuilder line = new StringBuilder(CALLS[op]).append('(');
    for (int i = 0; i < given.length; i++) {
      line.append(i == 0 ? "" : ", ").append(given[i]);
    }
    latest.add(line.append(") ").append(said(answer)).toString());
    if (latest.size() > 30) {
      latest.remove();
    }
  }

  static String said(long answer) {
    return answer == THREW_ARGUMENT ? "throws.IllegalArgumentException"
        : answer == THREW_STATE ? "throws.IllegalStateException"
        : answer == THREW_UNSUPPORTED ? "throws.UnsupportedOperationException"
        : "" + answer;
  }

  /** Looks at everything that can be looked at. */
  void compareAll() {
    if (call(FAULTS) != 0) {
      return;
    }
    for (int what = 0; what <= 5; what++) {
      call(COUNT, what);
    }
    for (int id = 0; id <= 251; id++) {
      compareOne(id);
    }
  }

  void compareOne(int id) {
    long kind = call(LOOK, id, 0);
    if (kind == 0) {
      return;
    }
    for (int what = 1; what <= 4; what++) {
      call(LOOK, id, what);
    }
    if (kind == Model.DIRECTORY) {
      long names = model.look(id, 1);
      for (int k = 0; k <= names; k++) {
        compareTold(call(NAME, id, k));
      }
    } else {
      int size = model.look(id, 1);
      for (int at = 0; at <= size; at += 2000) {
        compareTold(call(READ, id, at, 2000));
      }
    }
  }

  private void compareTold(long count) {
    for (int i = 0; i <= count; i++) {
      if (real.byteAt(i) != model.byteAt(i) && wrong++ == 0) {
        System.out.println(label + ", call " + calls + ": byteAt(" + i + ") is " + real.byteAt(i)
            + ", due is " + model.byteAt(i) + " behind " + latest.getLast());
      }
    }
  }

  private static long answer(Object x, int op, int[] given) {
    Object[] numbers = new Object[given.length];
    for (int i = 0; i < given.length; i++) {
      numbers[i] = given[i];
    }
    try {
      Object answer = method(x, op).invoke(x, numbers);
      return answer == null ? 0 : (Integer) answer;
    } catch (InvocationTargetException e) {
      return thrown(e.getCause());
    } catch (IllegalAccessException e) {
      throw new IllegalStateException(e);
    }
  }

  private static long thrown(Throwable e) {
    if (e.getClass() == IllegalArgumentException.class) {
      return THREW_ARGUMENT;
    }
    if (e.getClass() == IllegalStateException.class) {
      return THREW_STATE;
    }
    if (e.getClass() == UnsupportedOperationException.class) {
      return THREW_UNSUPPORTED;
    }
    throw new AssertionError("nothing else may be thrown", e);
  }

  private static Method method(Object x, int op) {
    Method[] known = x instanceof Model ? OF_MODEL : OF_REAL;
    if (known[op] == null) {
      for (Method m : x.getClass().getDeclaredMethods()) {
        boolean ofFace = x instanceof Model != Modifier.isPublic(m.getModifiers());
        if (m.getName().equals(CALLS[op]) && ofFace && !Modifier.isPrivate(m.getModifiers())) {
          known[op] = m;
        }
      }
    }
    return known[op];
  }
}
