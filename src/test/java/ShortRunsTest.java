import java.util.ArrayList;
import java.util.Arrays;
import java.util.List;

/**
 * Every run of a few steps out of a short list, on a FlashFiles and on the Model at once; then the
 * power fails, and what comes back is compared. Each run is made twice: with room for all of it, and
 * with so little that one of the first steps takes a checkpoint. The argument says how many steps a
 * run has.
 */
public final class ShortRunsTest {
  private static final int A = 0x61000000;
  private static final int B = 0x62000000;
  private static final int C = 0x63000000;
  private static final int D = 0x64000000;
  private static final int E = 0x65000000;
  private static final int STEPS = 24;
  private static final int ROOM = 16 * (48 - 24);
  /** The ids that these runs can give, and one more. */
  private static final int IDS = 10;

  private final Pair pair;
  private final int[] steps;
  private boolean ended;

  private ShortRunsTest(int length) {
    pair = new Pair("");
    steps = new int[length];
  }

  public static void main(String[] args) throws InterruptedException {
    int length = args.length > 0 ? Integer.parseInt(args[0]) : 3;
    List<ShortRunsTest> tests = new ArrayList<>();
    List<Thread> threads = new ArrayList<>();
    for (int first = 0; first < STEPS; first++) {
      ShortRunsTest test = new ShortRunsTest(length);
      test.steps[0] = first;
      Thread thread = new Thread(test::runAll);
      tests.add(test);
      threads.add(thread);
      thread.start();
    }
    int wrong = 0;
    for (int i = 0; i < STEPS; i++) {
      threads.get(i).join();
      // A thread that died of what a call threw ended nothing.
      wrong += tests.get(i).ended ? tests.get(i).pair.wrong : 1;
    }
    System.out.println(wrong == 0 ? "ShortRunsTest: all as due" : "ShortRunsTest: " + wrong + " wrong");
    System.exit(wrong == 0 ? 0 : 1);
  }

  private void runAll() {
    runAllFrom(1);
    ended = true;
  }

  private void runAllFrom(int at) {
    if (at == steps.length) {
      runOne(0);
      runOne(8);
      return;
    }
    for (int step = 0; step < STEPS && pair.wrong == 0; step++) {
      steps[at] = step;
      runAllFrom(at + 1);
    }
  }

  /** Begins with files 2 (names a and d/e), 3 (b, of 5,130 bytes) and 4 (c), and directory 5 (d). */
  private void runOne(int roomLeft) {
    pair.call(Pair.FORMAT, 48, 24);
    named(A, Pair.MAKE, 1, 1);
    named(B, Pair.MAKE, 1, 1);
    named(C, Pair.MAKE, 1, 1);
    named(D, Pair.MAKE_DIRECTORY, 1, 1);
    named(E, Pair.LINK, 2, 5, 1);
    named(0x41424344, Pair.WRITE, 3, 5110, 20);
    pair.call(Pair.SYNC);
    if (roomLeft > 0) {
      fillRoom(roomLeft);
    }
    for (int step : steps) {
      take(step);
      if (pair.model.isOff()) {
        pair.call(Pair.MOUNT);
      }
    }
    compare();
    pair.call(Pair.POWER);
    pair.call(Pair.MOUNT);
    compare();
  }

  /** By calls that need room and change nothing. */
  private void fillRoom(int roomLeft) {
    int left = ROOM - pair.model.count(1) - pair.model.count(2);
    for (; left - 6 >= roomLeft; left -= 6) {
      pair.call(Pair.TRUNCATE, 4, 0);
    }
  }

  private void named(int word, int op, int... given) {
    pair.call(Pair.FEED, word, word, word, word, word);
    pair.call(op, given);
  }

  private void moved(int from, int directory, int to, int other) {
    pair.call(Pair.FEED, from | to >>> 8, 0, 0, 0, 0);
    pair.call(Pair.RENAME, directory, 1, other, 1);
  }

  private void take(int step) {
    switch (step) {
      case 0: named(0x31313131, Pair.WRITE, 2, 0, 20); break;
      case 1: named(0x32323232, Pair.WRITE, 2, 77, 20); break;
      case 2: named(0x33333333, Pair.WRITE, 2, 5110, 20); break;
      case 3: named(0x34343434, Pair.WRITE, 3, 33780, 20); break;
      case 4: pair.call(Pair.TRUNCATE, 2, 0); break;
      case 5: pair.call(Pair.TRUNCATE, 2, 80); break;
      case 6: pair.call(Pair.TRUNCATE, 3, 5120); break;
      case 7: pair.call(Pair.TRUNCATE, 2, 50000); break;
      case 8: pair.call(Pair.FSYNC, 2); break;
      case 9: pair.call(Pair.FSYNC, 3); break;
      case 10: pair.call(Pair.SYNC); break;
      case 11: named(C, Pair.LINK, 2, 5, 1); break;
      case 12: named(A, Pair.UNLINK, 1, 1); break;
      case 13: named(E, Pair.UNLINK, 5, 1); break;
      case 14: named(B, Pair.UNLINK, 1, 1); break;
      case 15: moved(A, 1, B, 1); break;
      case 16: moved(E, 5, A, 1); break;
      case 17: moved(B, 1, B, 5); break;
      case 18: moved(D, 1, E, 1); break;
      case 19: named(A, Pair.MAKE, 1, 1); break;
      case 20: named(D, Pair.REMOVE_DIRECTORY, 1, 1); break;
      case 21: pair.call(Pair.CUT, 7); break;
      case 22: pair.call(Pair.POWER); break;
      default: pair.call(Pair.CLEAN); break;
    }
  }

  private void compare() {
    pair.call(Pair.FAULTS);
    for (int what = 0; what <= 5; what++) {
      pair.call(Pair.COUNT, what);
    }
    for (int id = 1; id <= IDS && pair.wrong == 0; id++) {
      pair.compareOne(id);
    }
    if (pair.wrong > 0) {
      System.out.println("in the run of steps " + Arrays.toString(steps));
    }
  }
}
