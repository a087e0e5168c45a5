import java.util.ArrayDeque;

/** Makes the same call on a FlashFiles and on the Model and compares the answers. */
final class Pair {
  static final String[] CALLS = {
    "format", "feed", "tape", "make", "makeDirectory", "link", "unlink", "removeDirectory", "rename",
    "find", "write", "read", "byteAt", "truncate", "fsync", "sync", "name", "look", "count", "power",
    "cut", "mount", "clean", "faults"
  };
  static final int FORMAT = 0, FEED = 1, TAPE = 2, MAKE = 3, MAKE_DIRECTORY = 4, LINK = 5, UNLINK = 6,
      REMOVE_DIRECTORY = 7, RENAME = 8, FIND = 9, WRITE = 10, READ = 11, BYTE_AT = 12, TRUNCATE = 13,
      FSYNC = 14, SYNC = 15, NAME = 16, LOOK = 17, COUNT = 18, POWER = 19, CUT = 20, MOUNT = 21,
      CLEAN = 22, FAULTS = 23;
  static final long THREW_ARGUMENT = 1L << 40;
  static final long THREW_STATE = 2L << 40;
  static final long THREW_UNSUPPORTED = 3L << 40;

  final FlashFiles real = new FlashFiles();
  final Model model = new Model();
  final String label;
  int calls;
  int wrong;
  private final ArrayDeque<String> latest = new ArrayDeque<>();

  Pair(String label) {
    this.label = label;
  }

  /** The answer, or which exception came. */
  long call(int op, int... given) {
    int[] a = new int[5];
    System.arraycopy(given, 0, a, 0, given.length);
    long want = onModel(op, a);
    long got = onReal(op, a);
    calls++;
    note(op, given, want);
    if (got != want && wrong++ == 0) {
      System.out.println(label + ", call " + calls + ": got " + said(got) + ", due is the last of:");
      for (String line : latest) {
        System.out.println("  " + line);
      }
    }
    return want;
  }

  private void note(int op, int[] given, long answer) {
    StringBuilder line = new StringBuilder(CALLS[op]).append('(');
    for (int i = 0; i < given.length; i++) {
      line.append(i == 0 ? "" : ", ").append(given[i]);
    }
    latest.add(line.append(") ").append(said(answer)).toString());
    if (latest.size() > 30) {
      latest.remove();
    }
  }

  static String said(long answer) {
    return answer == THREW_ARGUMENT ? "throws.IllegalArgumentException"
        : answer == THREW_STATE ? "throws.IllegalStateException"
        : answer == THREW_UNSUPPORTED ? "throws.UnsupportedOperationException"
        : "" + answer;
  }

  /** Looks at everything that can be looked at. */
  void compareAll() {
    if (call(FAULTS) != 0) {
      return;
    }
    for (int what = 0; what <= 5; what++) {
      call(COUNT, what);
    }
    for (int id = 0; id <= 251; id++) {
      long kind = call(LOOK, id, 0);
      if (kind == 0) {
        continue;
      }
      for (int what = 1; what <= 4; what++) {
        call(LOOK, id, what);
      }
      if (kind == Model.DIRECTORY) {
        long names = model.look(id, 1);
        for (int k = 0; k <= names; k++) {
          compareTold(call(NAME, id, k));
        }
      } else {
        int size = model.look(id, 1);
        for (int at = 0; at <= size; at += 2000) {
          compareTold(call(READ, id, at, 2000));
        }
      }
    }
  }

  private void compareTold(long count) {
    for (int i = 0; i <= count; i++) {
      if (real.byteAt(i) != model.byteAt(i) && wrong++ == 0) {
        System.out.println(label + ", call " + calls + ": byteAt(" + i + ") is " + real.byteAt(i)
            + ", due is " + model.byteAt(i) + " behind " + latest.getLast());
      }
    }
  }

  private long onReal(int op, int[] a) {
    FlashFiles x = real;
    try {
      switch (op) {
        case FORMAT: x.format(a[0], a[1]); return 0;
        case FEED: return x.feed(a[0], a[1], a[2], a[3], a[4]);
        case TAPE: return x.tape(a[0]);
        case MAKE: return x.make(a[0], a[1]);
        case MAKE_DIRECTORY: return x.makeDirectory(a[0], a[1]);
        case LINK: return x.link(a[0], a[1], a[2]);
        case UNLINK: return x.unlink(a[0], a[1]);
        case REMOVE_DIRECTORY: x.removeDirectory(a[0], a[1]); return 0;
        case RENAME: x.rename(a[0], a[1], a[2], a[3]); return 0;
        case FIND: return x.find(a[0], a[1]);
        case WRITE: return x.write(a[0], a[1], a[2]);
        case READ: return x.read(a[0], a[1], a[2]);
        case BYTE_AT: return x.byteAt(a[0]);
        case TRUNCATE: x.truncate(a[0], a[1]); return 0;
        case FSYNC: return x.fsync(a[0]);
        case SYNC: return x.sync();
        case NAME: return x.name(a[0], a[1]);
        case LOOK: return x.look(a[0], a[1]);
        case COUNT: return x.count(a[0]);
        case POWER: x.power(); return 0;
        case CUT: x.cut(a[0]); return 0;
        case MOUNT: return x.mount();
        case CLEAN: x.clean(); return 0;
        default: return x.faults();
      }
    } catch (IllegalArgumentException e) {
      return THREW_ARGUMENT;
    } catch (IllegalStateException e) {
      return THREW_STATE;
    } catch (UnsupportedOperationException e) {
      return THREW_UNSUPPORTED;
    }
  }

  private long onModel(int op, int[] a) {
    Model x = model;
    try {
      switch (op) {
        case FORMAT: x.format(a[0], a[1]); return 0;
        case FEED: return x.feed(a[0], a[1], a[2], a[3], a[4]);
        case TAPE: return x.tape(a[0]);
        case MAKE: return x.make(a[0], a[1]);
        case MAKE_DIRECTORY: return x.makeDirectory(a[0], a[1]);
        case LINK: return x.link(a[0], a[1], a[2]);
        case UNLINK: return x.unlink(a[0], a[1]);
        case REMOVE_DIRECTORY: x.removeDirectory(a[0], a[1]); return 0;
        case RENAME: x.rename(a[0], a[1], a[2], a[3]); return 0;
        case FIND: return x.find(a[0], a[1]);
        case WRITE: return x.write(a[0], a[1], a[2]);
        case READ: return x.read(a[0], a[1], a[2]);
        case BYTE_AT: return x.byteAt(a[0]);
        case TRUNCATE: x.truncate(a[0], a[1]); return 0;
        case FSYNC: return x.fsync(a[0]);
        case SYNC: return x.sync();
        case NAME: return x.name(a[0], a[1]);
        case LOOK: return x.look(a[0], a[1]);
        case COUNT: return x.count(a[0]);
        case POWER: x.power(); return 0;
        case CUT: x.cut(a[0]); return 0;
        case MOUNT: return x.mount();
        case CLEAN: x.clean(); return 0;
        default: return x.faults();
      }
    } catch (IllegalArgumentException e) {
      return THREW_ARGUMENT;
    } catch (IllegalStateException e) {
      return THREW_STATE;
    } catch (UnsupportedOperationException e) {
      return THREW_UNSUPPORTED;
    }
  }
}
