/** What the tests by promise and by sentence have in common: an object, and short ways to use it. */
abstract class Trial {
  interface Call {
    void run();
  }

  static final int MAX = Integer.MAX_VALUE;
  static final int MIN = Integer.MIN_VALUE;

  Counted x;
  int wrong;
  /** How many ids all() and tree() look at, from 1 on, and how many names of each directory. */
  int seen = 8;
  private String label = "";

  /** What is tried next, on a new object with a device of 48 segments, 24 of them in reserve. */
  void begin(String what) {
    label = what;
    x = new Counted();
    x.format(48, 24);
  }

  void beginWithoutDevice(String what) {
    label = what;
    x = new Counted();
  }

  void end() {
    String test = getClass().getName();
    System.out.println(wrong == 0 ? test + ": all as due" : test + ": " + wrong + " wrong");
    System.exit(wrong == 0 ? 0 : 1);
  }

  private void tell(String what, Object got, Object want) {
    wrong++;
    System.out.println(label + ": " + what + " is " + got + ", due is " + want);
  }

  void due(String what, long got, long want) {
    if (got != want) {
      tell(what, got, want);
    }
  }

  void text(String what, String got, String want) {
    if (!got.equals(want)) {
      tell(what, "'" + got + "'", "'" + want + "'");
    }
  }

  void throwing(String what, Class<?> want, Call call) {
    Class<?> got = null;
    try {
      call.run();
    } catch (RuntimeException e) {
      got = e.getClass();
    }
    if (got != want) {
      tell(what, "throwing " + got, "throwing " + want);
    }
  }

  void argument(String what, Call call) {
    throwing(what, IllegalArgumentException.class, call);
  }

  void state(String what, Call call) {
    throwing(what, IllegalStateException.class, call);
  }

  void unsupported(String what, Call call) {
    throwing(what, UnsupportedOperationException.class, call);
  }

  void goes(String what, Call call) {
    throwing(what, null, call);
  }

  static String filled(int n, char c) {
    return String.valueOf(c).repeat(n);
  }

  /** Feeds these bytes, filled up with zeros: one call for each twenty. */
  int fed(String bytes) {
    for (int at = 0; at < bytes.length(); at += 20) {
      int[] w = new int[5];
      for (int i = 0; i < 20; i++) {
        w[i / 4] |= (at + i < bytes.length() ? bytes.charAt(at + i) : 0) << (24 - 8 * (i % 4));
      }
      x.feed(w[0], w[1], w[2], w[3], w[4]);
    }
    return bytes.length();
  }

  /** Puts just these bytes on the tape, behind what is there. */
  int on(String bytes) {
    int had = x.tape(0);
    fed(bytes);
    x.tape(had + bytes.length());
    return bytes.length();
  }

  int file(int directory, String name) {
    return x.make(directory, fed(name));
  }

  int directory(int directory, String name) {
    return x.makeDirectory(directory, fed(name));
  }

  int put(int file, int at, String bytes) {
    return x.write(file, at, fed(bytes));
  }

  int found(int directory, String name) {
    return x.find(directory, fed(name));
  }

  int linked(int file, int directory, String name) {
    return x.link(file, directory, fed(name));
  }

  int unlinked(int directory, String name) {
    return x.unlink(directory, fed(name));
  }

  void moved(int directory, String name, int other, String to) {
    fed(name + to);
    x.rename(directory, name.length(), other, to.length());
  }

  /** The bytes of a file, as text. */
  String bytes(int file, int at, int n) {
    return told(x.read(file, at, n));
  }

  String told(int n) {
    StringBuilder text = new StringBuilder();
    for (int i = 0; i < n; i++) {
      text.append((char) x.byteAt(i));
    }
    due("byteAt behind the end", x.byteAt(Math.max(n, 0)), -1);
    return text.toString();
  }

  void failAndMount() {
    x.power();
    x.mount();
  }

  /** Every call that needs power throws, whatever it is given. */
  void withoutPower() {
    Call[] calls = {
      () -> x.make(1, 1), () -> x.makeDirectory(1, 1), () -> x.link(2, 1, 1), () -> x.unlink(1, 1),
      () -> x.removeDirectory(1, 1), () -> x.rename(1, 1, 1, 1), () -> x.find(1, 1),
      () -> x.write(2, 0, 1), () -> x.read(2, 0, 1), () -> x.truncate(2, 0), () -> x.fsync(2),
      () -> x.sync(), () -> x.name(1, 0), () -> x.look(1, 0), () -> x.count(0), () -> x.power(),
      () -> x.cut(1), () -> x.clean(), () -> x.faults(),
      () -> x.make(-1, 99), () -> x.makeDirectory(-1, 99), () -> x.link(-1, -1, 99),
      () -> x.unlink(-1, 0), () -> x.removeDirectory(-1, 0), () -> x.rename(-1, 0, -1, 0),
      () -> x.find(-1, 0), () -> x.write(-1, -1, 0), () -> x.read(-1, -1, 0), () -> x.truncate(0, -1),
      () -> x.fsync(-1), () -> x.name(-1, -1), () -> x.look(1, 9), () -> x.count(-1), () -> x.cut(-1)
    };
    for (int i = 0; i < calls.length; i++) {
      state("call " + i + " without power", calls[i]);
    }
  }

  /** Calls that need as much as is left of the room, and change nothing. */
  void fillRoom(int room, int file, int size, int alone) {
    int left = room - x.count(1) - x.count(2);
    for (; left >= 6; left -= 6) {
      x.truncate(file, size);
    }
    for (; left > 0; left--) {
      due("fsync by the file alone", x.fsync(alone), 0);
    }
    due("USED and FRESH", x.count(1) + x.count(2), room);
  }

  /** All that the calls tell but for the bytes in the midst of files. It ends with a certain name told. */
  String all() {
    StringBuilder s = new StringBuilder("told");
    for (int i = 0, b = x.byteAt(0); b >= 0; b = x.byteAt(++i)) {
      s.append(' ').append(b);
    }
    s.append(", tape ").append(x.tape(0)).append(", counts");
    for (int what = 0; what <= 5; what++) {
      s.append(' ').append(x.count(what));
    }
    s.append(tree());
    x.name(1, 0);
    return s.toString();
  }

  /** The tree: what each id is, its names or its size and some bytes. */
  String tree() {
    StringBuilder s = new StringBuilder();
    for (int id = 1; id <= seen; id++) {
      int kind = x.look(id, 0);
      s.append("; ").append(id).append(": ").append(kind);
      if (kind != 0) {
        for (int what = 1; what <= 4; what++) {
          s.append(' ').append(x.look(id, what));
        }
        s.append(kind == 2 ? names(id) : someBytes(id));
      }
    }
    return s.toString();
  }

  private String names(int directory) {
    StringBuilder s = new StringBuilder();
    int k = 0;
    for (int n = x.name(directory, k); n > 0 && k < seen; n = x.name(directory, ++k)) {
      s.append(' ');
      for (int i = 0; i < n; i++) {
        s.append((char) x.byteAt(i));
      }
    }
    return s.toString();
  }

  private String someBytes(int file) {
    StringBuilder s = new StringBuilder();
    int n = x.read(file, 0, 2);
    for (int i = 0; i < n; i++) {
      s.append(' ').append(x.byteAt(i));
    }
    n = x.read(file, Math.max(0, x.look(file, 1) - 2), 3);
    for (int i = 0; i < n; i++) {
      s.append(' ').append(x.byteAt(i));
    }
    return s.toString();
  }
}
