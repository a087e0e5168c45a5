import java.util.Random;

/**
 * Keeps a device nearly full while blocks all over many files are written anew, so that segments must
 * be cleaned again and again. An object promises 512 calls; these runs are longer, to wear the log.
 */
public final class ChurnTest {
  private final Random random;
  private final Pair pair;
  private final int room;
  private final int[] files;

  private ChurnTest(int seed, int segments) {
    random = new Random(seed);
    pair = new Pair("churn " + seed + " on " + segments);
    room = 16 * (segments - 24);
    files = new int[segments == 48 ? 20 + random.nextInt(10) : 90 + random.nextInt(60)];
    pair.call(Pair.FORMAT, segments, 24);
  }

  public static void main(String[] args) {
    int runs = args.length > 0 ? Integer.parseInt(args[0]) : 6;
    int wrong = 0;
    for (int seed = 0; seed < runs; seed++) {
      wrong += new ChurnTest(seed, 48).run();
      wrong += new ChurnTest(seed, 128).run();
    }
    System.out.println(wrong == 0 ? "ChurnTest: all as due" : "ChurnTest: " + wrong + " wrong");
    System.exit(wrong == 0 ? 0 : 1);
  }

  private int run() {
    makeFiles();
    for (int step = 0; step < 2000 && pair.wrong == 0; step++) {
      change(files[random.nextInt(files.length)], step / 250 % 4);
      commit();
      if (step % 500 == 499) {
        pair.compareAll();
      }
    }
    return pair.wrong == 0 ? 0 : 1;
  }

  private void makeFiles() {
    int directory = 1;
    for (int i = 0; i < files.length; i++) {
      if (i % 40 == 0) {
        pair.call(Pair.FEED, 0x44410000 + (i / 40 << 16), 0, 0, 0, 0);
        directory = (int) pair.call(Pair.MAKE_DIRECTORY, 1, 2);
      }
      pair.call(Pair.FEED, 0x66300000 + (i % 40 << 16), 0, 0, 0, 0);
      files[i] = (int) pair.call(Pair.MAKE, directory, 2);
    }
  }

  private void change(int file, int style) {
    int used = pair.model.count(0);
    if (used > room * (80 + random.nextInt(17)) / 100) {
      pair.call(Pair.TRUNCATE, file, random.nextInt(2) == 0 ? 0 : 256 * random.nextInt(391));
      return;
    }
    pair.call(Pair.FEED, random.nextInt(), random.nextInt(), random.nextInt(), random.nextInt(), random.nextInt());
    pair.call(Pair.WRITE, file, 256 * block(style) + random.nextInt(200), 20);
  }

  private int block(int style) {
    switch (style) {
      case 0: return 20 + 56 * random.nextInt(7) + random.nextInt(2);
      case 1: return random.nextInt(20);
      case 2: return random.nextInt(390);
      default: return random.nextInt(3);
    }
  }

  private void commit() {
    int file = files[random.nextInt(files.length)];
    switch (random.nextInt(24)) {
      case 0: case 1: case 2: case 3: pair.call(Pair.FSYNC, file); break;
      case 4: pair.call(Pair.SYNC); break;
      case 5: pair.call(Pair.CLEAN); break;
      case 6: if (random.nextInt(3) == 0) { pair.call(Pair.POWER); pair.call(Pair.MOUNT); } break;
      case 7: pair.call(Pair.FAULTS); break;
      default: break;
    }
  }
}
