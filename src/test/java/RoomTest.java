import java.util.ArrayList;
import java.util.List;

/**
 * What each call needs, on both sides of each edge: the last that goes without a checkpoint, the first
 * that takes one, the last that goes behind it and the first that is refused; and the same with a cut.
 */
public final class RoomTest extends Trial {
  private static final int ROOM = 16 * (48 - 24);
  private static final int LONGEST = 100000;
  // Sizes of files, and the blocks in use for such a file and its name when only block 0 is there.
  private static final int[] SIZES = {97, 5121, 19457, 33793, 48129, 62465, 76801, 91137};
  private static final int[] BLOCKS = {3, 4, 5, 7, 8, 9, 10, 11};

  private record Need(String what, int need, String tape, boolean usesTape, Call call) {
  }

  private final List<Need> needs = new ArrayList<>();

  public static void main(String[] args) {
    RoomTest t = new RoomTest();
    t.seen = 4;
    t.addNames();
    t.addFiles();
    for (Need n : t.needs) {
      t.countsWhatItNeeds(n);
      t.justFits(n);
      t.takesACheckpoint(n);
      t.takesACheckpointThatMakesRoom(n);
      t.isRefused(n);
      t.isCut(n);
      t.isCutAheadOfItsRefusal(n);
    }
    t.roomOfTheDevice();
    t.overFull();
    t.end();
  }

  private void addName(String what, int need, String tape, Call call) {
    needs.add(new Need(what, need, tape, true, call));
  }

  private void addNames() {
    addName("make", 4, "z", () -> x.make(1, 1));
    addName("makeDirectory", 4, "z", () -> x.makeDirectory(1, 1));
    addName("link", 4, "z", () -> x.link(2, 1, 1));
    addName("unlink", 4, "k", () -> x.unlink(1, 1));
    addName("removeDirectory", 4, "h", () -> x.removeDirectory(1, 1));
    addName("rename", 8, "gz", () -> x.rename(1, 1, 1, 1));
    addName("rename of a directory", 8, "hz", () -> x.rename(1, 1, 1, 1));
    addName("rename to itself", 8, "gg", () -> x.rename(1, 1, 1, 1));
    addName("rename between names of one file", 8, "gk", () -> x.rename(1, 1, 1, 1));
  }

  private void addFiles() {
    addName("write of a byte", 7, "z", () -> x.write(2, 0, 1));
    addName("write of the last byte", 7, "z", () -> x.write(2, LONGEST - 1, 1));
    addName("write of a block", 7, filled(256, 'z'), () -> x.write(2, 256, 256));
    addName("write of a block and a byte", 8, filled(257, 'z'), () -> x.write(2, 256, 257));
    addName("write of two bytes in two blocks", 8, "zz", () -> x.write(2, 255, 2));
    addName("write of 2,000 bytes in eight blocks", 14, filled(2000, 'z'), () -> x.write(2, 48, 2000));
    addName("write of 2,000 bytes in nine blocks", 15, filled(2000, 'z'), () -> x.write(2, 49, 2000));
    addName("write of 2,000 bytes from a block's last on", 15, filled(2000, 'z'), () -> x.write(2, 255, 2000));
    needs.add(new Need("truncate to 0", 6, "t", false, () -> x.truncate(2, 0)));
    needs.add(new Need("truncate to its size", 6, "t", false, () -> x.truncate(2, 3)));
    needs.add(new Need("truncate to the most", 6, "t", false, () -> x.truncate(2, LONGEST)));
    needs.add(new Need("fsync", 1, "t", false, () -> due("alone", x.fsync(2), 0)));
  }

  /** File 2 with the names g and k, directory 3 named h, and files until so many blocks are in use. */
  private void fillDevice(int target) {
    file(1, "g");
    put(2, 0, "abc");
    linked(2, 1, "k");
    directory(1, "h");
    int id = 4;
    int left = target - x.count(0);
    for (; left >= 22; left -= 11) {
      x.truncate(file(1, "l" + (char) (60 + id++)), LONGEST);
    }
    // The last two files end on the target; the longer one comes last, as it needs less than it takes.
    for (int i = 0; i < BLOCKS.length; i++) {
      for (int j = BLOCKS.length - 1; j >= i; j--) {
        if (left > 0 && BLOCKS[i] + BLOCKS[j] == left) {
          int one = file(1, "m");
          int two = file(1, "n");
          x.truncate(one, SIZES[i]);
          x.truncate(two, SIZES[j]);
          left = 0;
        }
      }
    }
    x.sync();
    due("USED", x.count(1), target);
    due("FRESH", x.count(2), 0);
  }

  private void countsWhatItNeeds(Need n) {
    begin(n.what + " needs " + n.need);
    fillDevice(100);
    on(n.tape);
    int taken = x.count(3);
    goes("the call", n.call);
    due("FRESH", x.count(2), n.need);
    due("USED", x.count(1), 100);
    due("checkpoints", x.count(3), taken);
  }

  private void justFits(Need n) {
    begin(n.what + ": USED + FRESH + n is 16 (S - R)");
    fillDevice(ROOM - n.need - 1);
    due("alone", x.fsync(2), 0);
    on(n.tape);
    int taken = x.count(3);
    goes("the call", n.call);
    due("USED", x.count(1), ROOM - n.need - 1);
    due("FRESH", x.count(2), n.need + 1);
    due("checkpoints", x.count(3), taken);
    due("faults", x.faults(), 0);
  }

  private void takesACheckpoint(Need n) {
    begin(n.what + ": USED + FRESH + n is one above 16 (S - R), USED + n is not");
    fillDevice(ROOM - n.need);
    due("alone", x.fsync(2), 0);
    on(n.tape);
    int taken = x.count(3);
    goes("the call", n.call);
    due("USED", x.count(1), ROOM - n.need);
    due("FRESH", x.count(2), n.need);
    due("checkpoints", x.count(3), taken + 1);
    due("faults", x.faults(), 0);
  }

  /** What was in use at the latest checkpoint is above, what is in use now is not. */
  private void takesACheckpointThatMakesRoom(Need n) {
    begin(n.what + ": a checkpoint, as less is in use now than was");
    fillDevice(ROOM - 6);
    x.truncate(4, 0);
    due("in use now", x.count(0), ROOM - 15);
    on(n.tape);
    int taken = x.count(3);
    goes("the call", n.call);
    due("USED", x.count(1), ROOM - 15);
    due("FRESH", x.count(2), n.need);
    due("checkpoints", x.count(3), taken + 1);
  }

  private void isRefused(Need n) {
    begin(n.what + ": USED + n is one above 16 (S - R)");
    fillDevice(ROOM - n.need + 1);
    on(n.tape);
    x.name(1, 0);
    String tree = tree();
    int taken = x.count(3);
    x.name(1, 0);
    state("the call", n.call);
    due("what was told stays", x.byteAt(0), 'g');
    due("the tape is used up by names and write", x.tape(0), n.usesTape ? 0 : n.tape.length());
    due("a checkpoint was taken for it", x.count(3), taken + 1);
    due("USED", x.count(1), ROOM - n.need + 1);
    due("FRESH", x.count(2), 0);
    text("the tree", tree(), tree);
    failAndMount();
    text("the tree that comes back", tree(), tree);
    due("faults", x.faults(), 0);
  }

  private void isCut(Need n) {
    begin(n.what + ": the checkpoint that it needs is cut");
    fillDevice(ROOM - n.need);
    String tree = tree();
    due("alone", x.fsync(2), 0);
    cutByNeed(n, tree, 1);
  }

  private void isCutAheadOfItsRefusal(Need n) {
    begin(n.what + ": the checkpoint is cut, ahead of the refusal");
    fillDevice(ROOM - n.need + 1);
    cutByNeed(n, tree(), 0);
  }

  private void cutByNeed(Need n, String tree, int forward) {
    on(n.tape);
    int taken = x.count(3);
    x.cut(3);
    unsupported("the call", n.call);
    state("the power is off", () -> x.count(0));
    due("the tape is used up by names and write", x.tape(0), n.usesTape ? 0 : n.tape.length());
    due("brought forward", x.mount(), forward);
    due("the cut checkpoint does not count, mount's does", x.count(3), taken + 1);
    text("the tree that comes back", tree(), tree);
    due("faults", x.faults(), 0);
  }

  /** 16 (S - R) for devices of all kinds: needs up to it take no checkpoint, one more does. */
  private void roomOfTheDevice() {
    int[][] devices = {{48, 24}, {49, 24}, {50, 25}, {128, 24}, {128, 64}, {127, 63}, {100, 37}};
    for (int[] d : devices) {
      beginWithoutDevice("16 (S - R) on " + d[0] + ", " + d[1]);
      x.format(d[0], d[1]);
      file(1, "f");
      x.sync();
      fillRoom(16 * (d[0] - d[1]), 2, 5, 2);
      due("no checkpoint yet", x.count(3), 2);
      due("fsync", x.fsync(2), 0);
      due("one more takes a checkpoint", x.count(3), 3);
      due("FRESH", x.count(2), 1);
    }
  }

  /** More can come in use than a call needs: then all calls are refused that need anything. */
  private void overFull() {
    begin("what is in use is above 16 (S - R)");
    fillDevice(ROOM - 6);
    x.truncate(2, LONGEST);
    due("in use", x.count(0), ROOM + 3);
    due("USED", x.count(1), ROOM - 6);
    int taken = x.count(3);
    for (Need n : needs) {
      if (n.tape.length() < 20) {
        fed(n.usesTape ? n.tape : "");
        state(n.what, n.call);
        due("a checkpoint was taken", x.count(3), ++taken);
        due("USED", x.count(1), ROOM + 3);
        due("FRESH", x.count(2), 0);
      }
    }
    due("sync goes", x.sync(), taken + 1);
    failAndMount();
    due("USED", x.count(1), ROOM + 3);
    due("size", x.look(2, 1), LONGEST);
    due("faults", x.faults(), 0);
  }
}
