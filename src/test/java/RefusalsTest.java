import java.util.ArrayList;
import java.util.List;

/**
 * Every call that throws for what it is given or for what is so, for each reason by itself: which
 * exception comes, whether the tape is used up, and that all else stays, on the device, too. Each is
 * tried when nothing presses; when there is no room left and a cut waits (no checkpoint is taken for
 * it, and the cut goes on waiting); without power; and without a device.
 */
public final class RefusalsTest extends Trial {
  private static final Class<?> ARGUMENT = IllegalArgumentException.class;
  private static final Class<?> STATE = IllegalStateException.class;
  private static final int ROOM = 16 * (48 - 24);
  private static final int[] NO_IDS = {0, -1, 8, 250, 251, 2047, MAX, MIN};

  private record Case(String what, String tape, Call call, Class<?> due, boolean usesTape, boolean needsPower) {
  }

  private interface OnName {
    void run(int directory, int n);
  }

  private final List<Case> cases = new ArrayList<>();

  public static void main(String[] args) {
    RefusalsTest t = new RefusalsTest();
    t.names();
    t.oldNames();
    t.renames();
    t.filesAndBytes();
    t.others();
    t.run();
    t.end();
  }

  /** Ids: 2 file a (5 bytes), 3 directory d, 4 d's empty e, 5 d's file b (300 bytes), 6 empty v, 7 n. */
  private void someTree() {
    file(1, "a");
    put(2, 0, "hello");
    directory(1, "d");
    directory(3, "e");
    file(3, "b");
    put(5, 298, "xy");
    linked(2, 3, "l");
    directory(1, "v");
    x.sync();
    put(2, 0, "J");
    put(5, 0, "B");
    due("alone", x.fsync(5), 0);
    file(1, "n");
  }

  private void add(String what, String tape, Class<?> due, Call call) {
    cases.add(new Case(what, tape, call, due, true, true));
  }

  private void addWithoutTape(String what, Class<?> due, Call call) {
    cases.add(new Case(what, "tape", call, due, false, true));
  }

  /** What is no name, or no directory, is so for each call that takes a name. */
  private void addForName(String what, String behind, OnName call) {
    for (int directory : NO_IDS) {
      add(what + ": no such directory " + directory, "z" + behind, ARGUMENT, () -> call.run(directory, 1));
      add(what + ": no such directory, ahead of the name's being there", "a" + behind, ARGUMENT, () -> call.run(directory, 1));
    }
    add(what + ": a file is no directory", "z" + behind, ARGUMENT, () -> call.run(2, 1));
    add(what + ": a new file is no directory", "z" + behind, ARGUMENT, () -> call.run(7, 1));
    int[] lengths = {0, -1, MIN, 2, 20, 21, MAX};
    for (int n : lengths) {
      add(what + ": one byte, n " + n, "z" + behind, ARGUMENT, () -> call.run(1, n));
    }
    add(what + ": no byte, n 1", behind, ARGUMENT, () -> call.run(1, 1));
    add(what + ": no byte, n 0", behind, ARGUMENT, () -> call.run(1, 0));
    add(what + ": 19 bytes, n 20", filled(19, 'z') + behind, ARGUMENT, () -> call.run(1, 20));
    add(what + ": 21 bytes, n 21", filled(21, 'z') + behind, ARGUMENT, () -> call.run(1, 21));
    String[] none = {"\0", "/", "\0z", "z\0", "/z", "z/", "z\0z", "z/z", filled(19, 'z') + "/", filled(19, 'z') + "\0"};
    for (String name : none) {
      add(what + ": a byte 0 or 47", name + behind, ARGUMENT, () -> call.run(1, name.length()));
    }
  }

  private void names() {
    addForName("make", "", (d, n) -> x.make(d, n));
    addForName("makeDirectory", "", (d, n) -> x.makeDirectory(d, n));
    addForName("link", "", (d, n) -> x.link(2, d, n));
    for (String there : new String[] {"a", "d", "n"}) {
      add("make: the name is there", there, STATE, () -> x.make(1, 1));
      add("makeDirectory: the name is there", there, STATE, () -> x.makeDirectory(1, 1));
      add("link: the name is there", there, STATE, () -> x.link(2, 1, 1));
      add("link: the name is there, of another file", there, STATE, () -> x.link(5, 1, 1));
      add("link: no such file, ahead of the name's being there", there, ARGUMENT, () -> x.link(8, 1, 1));
    }
    for (int file : NO_IDS) {
      add("link: no such file " + file, "z", ARGUMENT, () -> x.link(file, 1, 1));
    }
    add("link: the root", "z", ARGUMENT, () -> x.link(1, 1, 1));
    add("link: a directory", "z", ARGUMENT, () -> x.link(6, 1, 1));
  }

  private void oldNames() {
    addForName("unlink", "", (d, n) -> x.unlink(d, n));
    addForName("removeDirectory", "", (d, n) -> x.removeDirectory(d, n));
    addForName("find", "", (d, n) -> x.find(d, n));
    add("unlink: not there", "z", STATE, () -> x.unlink(1, 1));
    add("unlink: not in this directory", "b", STATE, () -> x.unlink(1, 1));
    add("unlink: only its beginning is there", "aa", STATE, () -> x.unlink(1, 2));
    add("unlink: in an empty directory", "a", STATE, () -> x.unlink(6, 1));
    add("unlink: a directory's with names", "d", STATE, () -> x.unlink(1, 1));
    add("unlink: an empty directory's", "v", STATE, () -> x.unlink(1, 1));
    add("removeDirectory: not there", "z", STATE, () -> x.removeDirectory(1, 1));
    add("removeDirectory: not in this directory", "e", STATE, () -> x.removeDirectory(1, 1));
    add("removeDirectory: in an empty directory", "d", STATE, () -> x.removeDirectory(6, 1));
    add("removeDirectory: a file's", "a", STATE, () -> x.removeDirectory(1, 1));
    add("removeDirectory: it has names", "d", STATE, () -> x.removeDirectory(1, 1));
  }

  private void renames() {
    addForName("rename from", "y", (d, n) -> x.rename(d, n, 1, 1));
    for (int other : NO_IDS) {
      add("rename: no such other directory " + other, "az", ARGUMENT, () -> x.rename(1, 1, other, 1));
      add("rename: neither directory", "az", ARGUMENT, () -> x.rename(other, 1, other, 1));
      add("rename: no such other directory, ahead of the first name", "zz", ARGUMENT, () -> x.rename(1, 1, other, 1));
    }
    add("rename: a file is no other directory", "az", ARGUMENT, () -> x.rename(1, 1, 2, 1));
    add("rename: m behind the tape", "az", ARGUMENT, () -> x.rename(1, 1, 1, 2));
    add("rename: n + m behind the tape", "az", ARGUMENT, () -> x.rename(1, 2, 1, 1));
    int[] lengths = {0, -1, MIN, MIN + 1, 21, MAX, MAX - 1};
    for (int m : lengths) {
      add("rename: m " + m, "a" + filled(30, 'z'), ARGUMENT, () -> x.rename(1, 1, 1, m));
      add("rename: n " + m, "a" + filled(30, 'z'), ARGUMENT, () -> x.rename(1, m, 1, 1));
      add("rename: n and m " + m, "a" + filled(30, 'z'), ARGUMENT, () -> x.rename(1, m, 1, m));
    }
    add("rename: n and m whose sum is in range as ints", "az", ARGUMENT, () -> x.rename(1, MAX, 1, MIN + 2));
    add("rename: n + m 40 of 39", filled(39, 'z'), ARGUMENT, () -> x.rename(1, 20, 1, 20));
    for (String to : new String[] {"\0", "/", "z/", "\0z"}) {
      add("rename: the second is no name", "a" + to, ARGUMENT, () -> x.rename(1, 1, 1, to.length()));
      add("rename: the second is no name, ahead of the first's not being there", "z" + to, ARGUMENT,
          () -> x.rename(1, 1, 1, to.length()));
    }
    add("rename: the first is not there", "yz", STATE, () -> x.rename(1, 1, 1, 1));
    add("rename: the first is not there, the second is", "ya", STATE, () -> x.rename(1, 1, 1, 1));
    add("rename: neither is there, and they are the same", "zz", STATE, () -> x.rename(1, 1, 1, 1));
    add("rename: the first is in the other directory alone", "bz", STATE, () -> x.rename(1, 1, 3, 1));
    add("rename: a file's for an empty directory's", "av", STATE, () -> x.rename(1, 1, 1, 1));
    add("rename: a file's for a directory's with names", "ad", STATE, () -> x.rename(1, 1, 1, 1));
    add("rename: an empty directory's for a file's", "va", STATE, () -> x.rename(1, 1, 1, 1));
    add("rename: a directory's for a directory's with names", "vd", STATE, () -> x.rename(1, 1, 1, 1));
    add("rename: a directory's for its own parent's", "ed", STATE, () -> x.rename(3, 1, 1, 1));
    add("rename: into itself", "dz", STATE, () -> x.rename(1, 1, 3, 1));
    add("rename: an empty one into itself", "vz", STATE, () -> x.rename(1, 1, 6, 1));
    add("rename: into one within it", "dz", STATE, () -> x.rename(1, 1, 4, 1));
    add("rename: into itself, for an empty directory's", "de", STATE, () -> x.rename(1, 1, 3, 1));
  }

  private void filesAndBytes() {
    for (int file : new int[] {0, -1, 8, 250, 251, 2047, MAX, MIN, 1, 3, 6}) {
      add("write: no such file " + file, "z", ARGUMENT, () -> x.write(file, 0, 1));
      addWithoutTape("read: no such file " + file, ARGUMENT, () -> x.read(file, 0, 1));
      addWithoutTape("truncate: no such file " + file, ARGUMENT, () -> x.truncate(file, 0));
      addWithoutTape("fsync: no such file " + file, ARGUMENT, () -> x.fsync(file));
    }
    for (int n : new int[] {0, -1, MIN, 2, 2000, 2001, MAX}) {
      add("write: one byte, n " + n, "z", ARGUMENT, () -> x.write(2, 0, n));
    }
    add("write: no byte, n 1", "", ARGUMENT, () -> x.write(2, 0, 1));
    add("write: 2,001 bytes", filled(2001, 'z'), ARGUMENT, () -> x.write(2, 0, 2001));
    add("write: 1,999 bytes, n 2,000", filled(1999, 'z'), ARGUMENT, () -> x.write(2, 0, 2000));
    for (int at : new int[] {-1, MIN, 99999, 100000, 100001, MAX, MAX - 1}) {
      add("write: two bytes at " + at, "zz", ARGUMENT, () -> x.write(2, at, 2));
    }
    add("write: one byte at 100,000", "z", ARGUMENT, () -> x.write(2, 100000, 1));
    add("write: one byte at the last int", "z", ARGUMENT, () -> x.write(2, MAX, 1));
    add("write: 2,000 bytes up to 100,001", filled(2000, 'z'), ARGUMENT, () -> x.write(2, 98001, 2000));
    for (int n : new int[] {0, -1, 2001, MAX, MIN}) {
      addWithoutTape("read: n " + n, ARGUMENT, () -> x.read(5, 0, n));
    }
    for (int at : new int[] {-1, MIN}) {
      addWithoutTape("read: at " + at, ARGUMENT, () -> x.read(5, at, 1));
      addWithoutTape("read: up to 2,000 at " + at, ARGUMENT, () -> x.read(5, at, 2000));
    }
    for (int size : new int[] {-1, 100001, MAX, MIN}) {
      addWithoutTape("truncate: size " + size, ARGUMENT, () -> x.truncate(5, size));
    }
  }

  private void others() {
    for (int directory : NO_IDS) {
      addWithoutTape("name: no such directory " + directory, ARGUMENT, () -> x.name(directory, 0));
    }
    addWithoutTape("name: a file", ARGUMENT, () -> x.name(2, 0));
    addWithoutTape("name: k below 0", ARGUMENT, () -> x.name(1, -1));
    addWithoutTape("name: k far below 0", ARGUMENT, () -> x.name(1, MIN));
    for (int what : new int[] {-1, 5, MAX, MIN}) {
      addWithoutTape("look: what " + what, ARGUMENT, () -> x.look(1, what));
      addWithoutTape("look: what " + what + " of none", ARGUMENT, () -> x.look(8, what));
      addWithoutTape("look: what " + what + " of no id", ARGUMENT, () -> x.look(-1, what));
    }
    for (int what : new int[] {-1, 6, MAX, MIN}) {
      addWithoutTape("count: what " + what, ARGUMENT, () -> x.count(what));
    }
    addAlways("byteAt: below 0", "tape", ARGUMENT, () -> x.byteAt(-1));
    addAlways("byteAt: far below 0", "tape", ARGUMENT, () -> x.byteAt(MIN));
    addAlways("feed: 2,041 are there", filled(2041, 'z'), STATE, () -> x.feed(1, 2, 3, 4, 5));
    addAlways("feed: 2,060 are there", filled(2060, 'z'), STATE, () -> x.feed(1, 2, 3, 4, 5));
    int[][] none = {{47, 24}, {129, 24}, {48, 23}, {48, 25}, {49, 25}, {127, 64}, {128, 65}, {0, 0}, {47, 23},
        {-48, 24}, {MAX, 24}, {MIN, 24}, {MIN, MIN}, {MAX, MAX}, {128, MIN}, {128, MAX}, {128, -24}, {128, 0}};
    for (int[] n : none) {
      addAlways("format(" + n[0] + ", " + n[1] + ")", "tape", ARGUMENT, () -> x.format(n[0], n[1]));
    }
  }

  private void addAlways(String what, String tape, Class<?> due, Call call) {
    cases.add(new Case(what, tape, call, due, false, false));
  }

  private void run() {
    begin("the tree by itself");
    someTree();
    failAndMount();
    String comesBack = tree();
    for (Case c : cases) {
      whenNothingPresses(c, comesBack);
      whenFullAndCut(c, comesBack);
      whenThePowerIsOff(c, comesBack);
      whenThereIsNoDevice(c);
    }
    mountWhenMounted();
  }

  private void whenNothingPresses(Case c, String comesBack) {
    begin(c.what);
    someTree();
    allStays(c);
    failAndMount();
    text("what comes back", tree(), comesBack);
    due("faults", x.faults(), 0);
  }

  private void whenFullAndCut(Case c, String comesBack) {
    begin(c.what + ", no room left, a cut waits");
    someTree();
    fillRoom(ROOM, 2, 5, 5);
    x.cut(0);
    allStays(c);
    unsupported("the cut still waits", () -> x.sync());
    due("file 5 was brought forward", x.mount(), 1);
    text("what comes back", tree(), comesBack);
  }

  private void allStays(Case c) {
    on(c.tape);
    x.name(1, 0);
    String before = all();
    throwing("the call", c.due, c.call);
    String tape = ", tape " + c.tape.length() + ",";
    text("all that is told", all(), c.usesTape ? before.replace(tape, ", tape 0,") : before);
  }

  private void whenThePowerIsOff(Case c, String comesBack) {
    begin(c.what + ", without power");
    someTree();
    x.power();
    on(c.tape);
    throwing("the call", c.needsPower ? STATE : c.due, c.call);
    due("the tape stays", x.tape(0), c.tape.length());
    due("file 5 was brought forward", x.mount(), 1);
    text("what comes back", tree(), comesBack);
  }

  private void whenThereIsNoDevice(Case c) {
    beginWithoutDevice(c.what + ", without a device");
    on(c.tape);
    throwing("the call", c.needsPower ? STATE : c.due, c.call);
    due("the tape stays", x.tape(0), c.tape.length());
    state("there is still no device", () -> x.mount());
  }

  private void mountWhenMounted() {
    begin("mount, when it is mounted");
    someTree();
    fillRoom(ROOM, 2, 5, 5);
    x.cut(0);
    on("tape");
    x.name(1, 0);
    String before = all();
    state("mount", () -> x.mount());
    text("all that is told", all(), before);
    unsupported("the cut still waits", () -> x.sync());
  }
}
