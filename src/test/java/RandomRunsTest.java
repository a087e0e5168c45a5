import java.util.ArrayList;
import java.util.List;
import java.util.Random;

/**
 * Random runs, by fixed seeds, on a FlashFiles and on the Model at once. The first argument says how
 * many runs of each kind, the second one the first seed.
 */
public final class RandomRunsTest {
  // How often each call comes, in the order of Pair.CALLS, for several kinds of run.
  private static final int[][] KINDS = {
    // a bit of everything
    {1, 6, 2, 12, 6, 6, 6, 4, 10, 4, 20, 8, 2, 8, 8, 3, 4, 4, 4, 2, 2, 3, 3, 3},
    // long files, written all over
    {0, 0, 0, 4, 1, 1, 1, 0, 1, 0, 60, 4, 0, 10, 8, 3, 0, 0, 2, 2, 1, 2, 4, 2},
    // names
    {0, 1, 0, 30, 15, 15, 15, 8, 30, 6, 4, 1, 0, 2, 6, 3, 6, 2, 2, 2, 1, 2, 2, 2},
    // many files and power failures
    {0, 0, 0, 20, 4, 4, 6, 2, 4, 1, 25, 2, 0, 8, 25, 2, 0, 0, 2, 6, 5, 8, 4, 2},
    // full to the brim
    {0, 0, 0, 6, 1, 1, 3, 1, 3, 0, 60, 2, 0, 6, 12, 2, 0, 0, 4, 1, 1, 2, 3, 2},
    // all that fits stays: sizes without bytes
    {0, 0, 0, 20, 2, 1, 1, 0, 1, 0, 10, 1, 0, 40, 6, 2, 0, 0, 4, 1, 1, 2, 3, 2},
  };

  private final Random random;
  private final int kind;
  private final Pair pair;

  private RandomRunsTest(int kind, long seed) {
    this.kind = kind;
    random = new Random(seed * 31 + kind);
    pair = new Pair("kind " + kind + ", seed " + seed);
  }

  public static void main(String[] args) {
    int runs = args.length > 0 ? Integer.parseInt(args[0]) : 40;
    long begin = args.length > 1 ? Long.parseLong(args[1]) : 1;
    int length = args.length > 2 ? Integer.parseInt(args[2]) : 512;
    int wrong = 0;
    for (int kind = 0; kind < KINDS.length; kind++) {
      for (long seed = begin; seed < begin + runs; seed++) {
        wrong += new RandomRunsTest(kind, seed).run(length);
      }
    }
    System.out.println(wrong == 0 ? "RandomRunsTest: all as due" : "RandomRunsTest: " + wrong + " wrong");
    System.exit(wrong == 0 ? 0 : 1);
  }

  private int run(int length) {
    if (random.nextInt(8) == 0) {
      pair.call(Pair.MAKE + random.nextInt(2), 1, 1);
    }
    format();
    for (int i = 0; i < length && pair.wrong == 0; i++) {
      step(pick());
      if (random.nextInt(100) == 0) {
        pair.compareAll();
      }
    }
    if (pair.wrong == 0) {
      pair.call(Pair.POWER);
      pair.call(Pair.MOUNT);
      pair.compareAll();
    }
    return pair.wrong == 0 ? 0 : 1;
  }

  private void format() {
    int s = random.nextInt(3) == 0 ? 48 + random.nextInt(81) : 48 + random.nextInt(3);
    int r = random.nextInt(2) == 0 ? 24 : 24 + random.nextInt(s / 2 - 23);
    pair.call(Pair.FORMAT, s, r);
  }

  private int pick() {
    int sum = 0;
    for (int w : KINDS[kind]) {
      sum += w;
    }
    int at = random.nextInt(sum);
    int op = 0;
    while (at >= KINDS[kind][op]) {
      at -= KINDS[kind][op++];
    }
    return op;
  }

  private void step(int op) {
    switch (op) {
      case Pair.FORMAT: if (random.nextInt(8) == 0) format(); else pair.call(op, random.nextInt(140), random.nextInt(70)); break;
      case Pair.FEED: feedRandom(1 + random.nextInt(4)); break;
      case Pair.TAPE: pair.call(op, random.nextInt(60) - 5); break;
      case Pair.MAKE: case Pair.MAKE_DIRECTORY: pair.call(op, directory(), feedName(op)); break;
      case Pair.UNLINK: case Pair.REMOVE_DIRECTORY: case Pair.FIND: onName(op); break;
      case Pair.LINK: { int f = file(); pair.call(op, f, directory(), feedName(op)); break; }
      case Pair.RENAME: rename(); break;
      case Pair.WRITE: write(); break;
      case Pair.READ: pair.call(op, file(), place(2000), wild(2000)); break;
      case Pair.BYTE_AT: pair.call(op, wild(2000)); break;
      case Pair.TRUNCATE: pair.call(op, file(), size()); break;
      case Pair.FSYNC: pair.call(op, file()); break;
      case Pair.NAME: pair.call(op, directory(), random.nextInt(50) - 1); break;
      case Pair.LOOK: pair.call(op, random.nextInt(256) - 2, random.nextInt(7) - 1); break;
      case Pair.COUNT: pair.call(op, random.nextInt(8) - 1); break;
      case Pair.CUT: pair.call(op, random.nextInt(45) - 3); break;
      case Pair.POWER: pair.call(op); if (random.nextInt(4) != 0) pair.call(Pair.MOUNT); break;
      default: pair.call(op); break;
    }
  }

  private void feedRandom(int times) {
    for (int i = 0; i < times; i++) {
      pair.call(Pair.FEED, random.nextInt(), random.nextInt(), random.nextInt(), random.nextInt(), random.nextInt());
    }
  }

  private void feedBytes(byte[] bytes) {
    for (int at = 0; at < bytes.length; at += 20) {
      int[] w = new int[5];
      for (int i = 0; i < 20; i++) {
        w[i / 4] |= (at + i < bytes.length ? bytes[at + i] & 255 : 0) << (24 - 8 * (i % 4));
      }
      pair.call(Pair.FEED, w[0], w[1], w[2], w[3], w[4]);
    }
  }

  private byte[] someName() {
    int n = random.nextInt(12) == 0 ? 20 : 1 + random.nextInt(3);
    byte[] name = new byte[n];
    int letters = kind == 2 ? 6 : 26;
    for (int i = 0; i < n; i++) {
      name[i] = (byte) (random.nextInt(30) == 0 ? 200 + random.nextInt(50) : 'a' + random.nextInt(letters));
    }
    if (random.nextInt(60) == 0) {
      name[random.nextInt(n)] = (byte) (random.nextBoolean() ? 47 : 0);
    }
    return name;
  }

  private int feedName(int op) {
    byte[] name = someName();
    feedBytes(name);
    return random.nextInt(80) == 0 ? random.nextInt(25) - 1 : name.length;
  }

  private int directory() {
    return any(Model.DIRECTORY);
  }

  private int file() {
    return any(Model.FILE);
  }

  private int any(int sort) {
    if (random.nextInt(60) == 0) {
      return random.nextInt(256) - 3;
    }
    List<Integer> ids = new ArrayList<>();
    for (int id = 1; id <= 250; id++) {
      if (kindOf(id) == sort) {
        ids.add(id);
      }
    }
    if (ids.isEmpty()) {
      return 2;
    }
    boolean busy = kind != 2 && kind != 5 && random.nextInt(3) != 0;
    return ids.get(random.nextInt(busy ? Math.min(4, ids.size()) : ids.size()));
  }

  private int kindOf(int id) {
    try {
      return pair.model.look(id, 0);
    } catch (IllegalStateException e) {
      return 0;
    }
  }

  /** A name that is there, mostly. */
  private byte[] oldName(int directory) {
    if (kindOf(directory) == Model.DIRECTORY && random.nextInt(10) != 0) {
      int names = pair.model.look(directory, 1);
      if (names > 0) {
        int n = (int) pair.call(Pair.NAME, directory, random.nextInt(names));
        byte[] name = new byte[n];
        for (int i = 0; i < n; i++) {
          name[i] = (byte) pair.call(Pair.BYTE_AT, i);
        }
        return name;
      }
    }
    return someName();
  }

  private void onName(int op) {
    int d = directory();
    byte[] name = oldName(d);
    feedBytes(name);
    pair.call(op, d, name.length);
  }

  private void rename() {
    int d = directory();
    int o = random.nextInt(3) == 0 ? d : directory();
    byte[] from = oldName(d);
    byte[] to = random.nextInt(3) == 0 ? oldName(o) : someName();
    byte[] both = new byte[from.length + to.length];
    System.arraycopy(from, 0, both, 0, from.length);
    System.arraycopy(to, 0, both, from.length, to.length);
    if (random.nextInt(3) == 0) {
      pair.call(Pair.TAPE, 1);
      pair.call(Pair.FIND, 1, 1);
    }
    feedBytes(both);
    pair.call(Pair.RENAME, d, from.length, o, random.nextInt(60) == 0 ? random.nextInt() : to.length);
  }

  private void write() {
    int n = random.nextInt(3) == 0 ? 1 + random.nextInt(40) : 1 + random.nextInt(kind == 1 || kind == 4 ? 2000 : 300);
    feedRandom((n + 19) / 20);
    int at = place(n);
    pair.call(Pair.WRITE, file(), at, random.nextInt(50) == 0 ? wild(2000) : n);
  }

  private int place(int n) {
    switch (random.nextInt(8)) {
      case 0: return 0;
      case 1: return random.nextInt(100);
      case 2: return 256 * random.nextInt(391);
      case 3: return Math.max(0, 256 * new int[] {20, 76, 132, 188, 244, 300, 356}[random.nextInt(7)] - random.nextInt(n + 1));
      case 4: return random.nextInt(30) == 0 ? random.nextInt() : 100000 - n - random.nextInt(3) + 1;
      case 5: return random.nextInt(kind == 0 ? 600 : 100000);
      default: return random.nextInt(6000);
    }
  }

  private int size() {
    switch (random.nextInt(8)) {
      case 0: return 0;
      case 1: return 90 + random.nextInt(10);
      case 2: return random.nextInt(400);
      case 3: return 256 * new int[] {1, 20, 76, 132, 188, 244, 300, 356}[random.nextInt(8)] + random.nextInt(3) - 1;
      case 4: return random.nextInt(20) == 0 ? random.nextInt() : 100000 + random.nextInt(2);
      default: return random.nextInt(kind == 5 ? 100001 : 8000);
    }
  }

  private int wild(int most) {
    return random.nextInt(10) == 0 ? random.nextInt() : random.nextInt(most + 3) - 1;
  }
}
