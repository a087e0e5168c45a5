/** The sentences of the document's section 'Terms', one by one; each test begins with the words it tries. */
public final class TermsTest extends Trial {
  private static final int LONGEST = 100000;

  public static void main(String[] args) {
    TermsTest t = new TermsTest();
    t.powerFails();
    t.powerFailsByCut();
    t.powerComesAheadOfAllElse();
    t.tapeAndToldStay();
    t.idsAreTheLowest();
    t.idsOfACheckpointTakenByTheCall();
    t.everyId();
    t.namesInADirectory();
    t.bytesOfNames();
    t.anyNumberOfNames();
    t.rootHasNoName();
    t.sizeIsAtMost();
    t.zerosWhereNothingWasWritten();
    t.zerosWhereItWasCutOff();
    t.goneWithoutLinks();
    t.blocksOfDirectories();
    t.nodesForTheSize();
    t.smallUpTo96();
    t.smallNeverAgainBut0Long();
    t.thereByWrite();
    t.thereByCeasingToBeSmall();
    t.lostBehindTheEnd();
    t.freshIsTheSum();
    t.freshBehindFsync();
    t.noCheckpointWhenItThrows();
    t.checkpointIsACommit();
    t.fsyncByACheckpoint();
    t.fsyncAlone();
    t.fsyncBehindItsOwnCheckpoint();
    t.fsyncWithNothingNew();
    t.fsyncOfOneThatIsGoneLater();
    t.laterFsyncOrCheckpoint();
    t.mountGivesTheTree();
    t.mountGivesBlocksAndSmall();
    t.mountTakesACheckpoint();
    t.cutOfAnyNumber();
    t.cutDidNothingElse();
    t.cleanNeverCommits();
    t.laterCutCounts();
    t.cutIsForgotten();
    t.end();
  }

  private void powerFails() {
    begin("The power fails by power() (...); what is on the device stays, all else is gone");
    file(1, "a");
    x.sync();
    file(1, "b");
    put(2, 0, "gone");
    x.power();
    withoutPower();
    due("mount goes", x.mount(), 0);
    text("the tree", tree(), "; 1: 2 1 1 2 0 a; 2: 1 0 1 1 1" + none(3));
  }

  private static String none(int from) {
    StringBuilder s = new StringBuilder();
    for (int id = from; id <= 8; id++) {
      s.append("; ").append(id).append(": 0");
    }
    return s.toString();
  }

  private void powerFailsByCut() {
    begin("or in the midst of a COMMIT by cut()");
    file(1, "a");
    x.sync();
    file(1, "b");
    x.cut(7);
    unsupported("sync", () -> x.sync());
    withoutPower();
    due("mount goes", x.mount(), 0);
    text("the tree", tree(), "; 1: 2 1 1 2 0 a; 2: 1 0 1 1 1" + none(3));
  }

  private void powerComesAheadOfAllElse() {
    begin("then mount() is the only call that goes (but format(), feed(), tape(), byteAt())");
    file(1, "a");
    x.name(1, 0);
    x.power();
    withoutPower();
    due("feed", x.feed(0x61620000, 0, 0, 0, 0), 20);
    due("tape", x.tape(2), 2);
    due("byteAt", x.byteAt(0), 'a');
    argument("byteAt's own exception", () -> x.byteAt(-1));
    argument("format's own exception", () -> x.format(47, 24));
    withoutPower();
    x.format(50, 25);
    due("format goes", x.count(3), 1);
    state("mounted by it", () -> x.mount());
  }

  private void tapeAndToldStay() {
    begin("The tape and what byteAt() tells stay when the power fails, and by format()");
    file(1, "told");
    x.sync();
    x.name(1, 0);
    on("abc");
    x.power();
    toldAndTape();
    x.mount();
    toldAndTape();
    x.cut(0);
    unsupported("sync", () -> x.sync());
    toldAndTape();
    x.format(48, 24);
    toldAndTape();
    argument("no device", () -> x.format(0, 0));
    toldAndTape();
    due("the bytes of the tape", x.make(1, 3), 2);
    due("are as they were", found(1, "abc"), 2);
  }

  private void toldAndTape() {
    due("tape", x.tape(0), 3);
    text("told", told(4), "told");
  }

  private void idsAreTheLowest() {
    begin("a new one gets the lowest id that is in use neither now nor at the latest checkpoint");
    for (int id = 2; id <= 6; id++) {
      due("the next", file(1, "f" + id), id);
    }
    unlinked(1, "f3");
    due("in use neither now nor then: at once", directory(1, "d3"), 3);
    unlinked(1, "f2");
    x.removeDirectory(1, fed("d3"));
    due("the lowest of two", file(1, "e2"), 2);
    due("the other", file(1, "e3"), 3);
    x.sync();
    unlinked(1, "f4");
    unlinked(1, "f5");
    due("in use at the latest checkpoint", file(1, "f7"), 7);
    unlinked(1, "f7");
    due("not in use then", file(1, "g7"), 7);
    moved(1, "g7", 1, "f6");
    due("6 waits, as it was there", file(1, "f8"), 8);
    x.sync();
    due("behind a checkpoint", file(1, "g4"), 4);
    due("and the next", file(1, "g5"), 5);
    due("and the next", file(1, "g6"), 6);
    due("and the next", file(1, "g9"), 9);
    failAndMount();
    due("what came since was never in use", file(1, "h4"), 4);
  }

  private void idsOfACheckpointTakenByTheCall() {
    begin("(also one taken by this very call)");
    file(1, "a");
    file(1, "b");
    directory(1, "d");
    x.sync();
    unlinked(1, "a");
    x.removeDirectory(1, fed("d"));
    fillRoom(384, 3, 0, 3);
    due("the checkpoint set it free", file(1, "c"), 2);
    due("checkpoints", x.count(3), 3);
    fillRoom(384, 3, 0, 3);
    due("likewise a directory", directory(1, "e"), 4);
    due("checkpoints", x.count(3), 4);
    due("faults", x.faults(), 0);
  }

  /** Two calls for each id are all that 512 calls allow. */
  private void everyId() {
    beginWithoutDevice("an ID (1 the root directory, at most 250)");
    x.format(128, 24);
    int made = 1;
    for (int d = 0; made < 250; d++) {
      int dir = directory(1, "d" + d);
      due("a directory", dir, ++made);
      for (int i = 0; i < 48 && made < 250; i++) {
        due("a file", file(dir, "" + (char) (50 + i)), ++made);
      }
    }
    due("ids", x.count(5), 250);
    due("the last", x.look(250, 0), 1);
    due("no more", x.look(251, 0), 0);
    state("the 251st", () -> file(1, "z"));
    state("the 251st", () -> directory(1, "z"));
    due("the tape is used up", x.tape(0), 0);
    due("a link needs no id", linked(250, 1, "z"), 2);
    due("checkpoints", x.count(3), 1);
  }

  private void namesInADirectory() {
    begin("A directory has at most 48 NAMES");
    int d = directory(1, "d");
    int f = file(1, "f");
    int e = directory(1, "e");
    for (int i = 0; i < 46; i++) {
      due("links", linked(f, d, "n" + (char) (i + 1)), i + 2);
    }
    int g = file(d, "file");
    due("the 48th, a directory", directory(d, "directory"), g + 1);
    due("names", x.look(d, 1), 48);
    due("blocks", x.look(d, 3), 49);
    Call[] refused = {
      () -> file(d, "z"), () -> directory(d, "z"), () -> linked(f, d, "z"), () -> moved(1, "f", d, "z"),
      () -> moved(1, "e", d, "z")
    };
    int[] before = new int[6];
    for (int what = 0; what <= 5; what++) {
      before[what] = x.count(what);
    }
    for (int i = 0; i < refused.length; i++) {
      state("the 49th, by call " + i, refused[i]);
      due("the tape is used up", x.tape(0), 0);
      for (int what = 0; what <= 5; what++) {
        due("count " + what, x.count(what), before[what]);
      }
    }
    due("links", x.look(f, 2), 47);
    due("the names in the other directory stay", found(1, "f") + found(1, "e"), f + e);
    due("names", x.look(d, 1), 48);
    due("none of them came", found(d, "z"), -1);
    moved(1, "f", d, "file");
    due("rename onto a name that is there", found(d, "file"), f);
    moved(1, "e", d, "directory");
    due("and onto a directory's", found(d, "directory"), e);
    moved(d, "file", d, "z");
    due("rename within it", found(d, "z"), f);
    unlinked(d, "z");
    due("then there is a place again", file(d, "y") > 0 ? x.look(d, 1) : 0, 48);
    due("faults", x.faults(), 0);
    x.sync();
    failAndMount();
    due("names", x.look(d, 1), 48);
    due("faults", x.faults(), 0);
  }

  private void bytesOfNames() {
    begin("NAMES (1 .. 20 bytes, none of them 0 or 47)");
    char[] ends = {1, 46, 48, 127, 128, 255};
    for (char c : ends) {
      due("one byte " + (int) c, found(1, "" + c), -1);
      int f = file(1, "" + c);
      due("is a name", found(1, "" + c), f);
      int g = file(1, filled(20, c));
      due("twenty of them, too", found(1, filled(20, c)), g);
    }
    due("names", x.look(1, 1), 12);
    for (char c : new char[] {0, 47}) {
      for (int at = 0; at < 20; at++) {
        String name = filled(at, 'n') + c + filled(19 - at, 'n');
        argument("byte " + at + " is " + (int) c, () -> x.make(1, fed(name)));
      }
    }
    due("a 0 behind the n bytes is none of theirs", x.make(1, fed("n\0") - 1), 14);
    due("a 47 neither", x.make(1, fed("m/") - 1), 15);
    due("names", x.look(1, 1), 14);
    argument("none", () -> x.make(1, fed("n") - 1));
    argument("21", () -> x.make(1, fed(filled(21, 'n'))));
    due("20", file(1, filled(20, 'n')), 16);
  }

  private void anyNumberOfNames() {
    begin("the id of a file (any number of names; LINKS)");
    x.format(128, 24);
    int f = file(1, "f");
    int links = 1;
    for (int d = 0; d < 5; d++) {
      int dir = directory(1, "d" + d);
      for (int i = 0; i < 46; i++) {
        due("links", linked(f, dir, "" + (char) (50 + i)), ++links);
      }
    }
    due("look", x.look(f, 2), 231);
    due("blocks", x.count(0), 1 + 6 + 5 + 5 * 46 + 1);
    due("one less", unlinked(3, "2"), 230);
    x.sync();
    failAndMount();
    due("look", x.look(f, 2), 230);
    due("faults", x.faults(), 0);
  }

  private void rootHasNoName() {
    begin("a directory (one name, but the root, which has none)");
    int d = directory(1, "d");
    due("links of the root", x.look(1, 2), 1);
    due("links of a directory", x.look(d, 2), 1);
    argument("a directory gets no second name", () -> linked(d, 1, "e"));
    argument("nor the root one", () -> linked(1, d, "r"));
    due("no name", x.name(d, 0), -1);
    due("blocks", x.count(0), 3);
  }

  private void sizeIsAtMost() {
    begin("A file has a SIZE of at most 100,000 bytes");
    int f = file(1, "f");
    due("write up to it", put(f, LONGEST - 1, "z"), LONGEST);
    argument("write above it", () -> put(f, LONGEST, "z"));
    argument("write from within above it", () -> put(f, LONGEST - 1, "zz"));
    x.truncate(f, 0);
    x.truncate(f, LONGEST);
    due("truncate up to it", x.look(f, 1), LONGEST);
    argument("truncate above it", () -> x.truncate(f, LONGEST + 1));
    due("size", x.look(f, 1), LONGEST);
    due("write of 2,000 up to it", put(f, LONGEST - 2000, filled(2000, 'e')), LONGEST);
    text("the last bytes", bytes(f, LONGEST - 2, 5), "ee");
    text("the first of them", bytes(f, LONGEST - 2001, 2), "\0e");
    due("faults", x.faults(), 0);
  }

  private void zerosWhereNothingWasWritten() {
    begin("its BYTES, 0 where nothing was written");
    int f = file(1, "f");
    put(f, 3, "a");
    text("ahead of it, small", bytes(f, 0, 9), "\0\0\0a");
    put(f, 260, "b");
    text("in block 0", bytes(f, 2, 3), "\0a\0");
    text("between", bytes(f, 255, 9), "\0\0\0\0\0b");
    put(f, 256 * 100 + 5, "c");
    text("in blocks that are not there", bytes(f, 256 * 50, 3), "\0\0\0");
    text("in that block", bytes(f, 256 * 100 + 3, 9), "\0\0c");
    x.truncate(f, 256 * 100 + 8);
    text("behind it", bytes(f, 256 * 100 + 5, 9), "c\0\0");
    put(f, 256 * 300, "d");
    text("by nodes that are not there", bytes(f, 256 * 200, 3), "\0\0\0");
    text("up to it", bytes(f, 256 * 300 - 1, 9), "\0d");
    x.truncate(f, LONGEST);
    text("the last", bytes(f, LONGEST - 1, 9), "\0");
    x.sync();
    failAndMount();
    text("behind mount", bytes(f, 255, 6), "\0\0\0\0\0b");
    text("behind mount", bytes(f, LONGEST - 1, 9), "\0");
  }

  private void zerosWhereItWasCutOff() {
    int[] ends = {1, 50, 95, 96, 97, 200, 255, 256, 257, 300, 511, 512, 20 * 256 + 7, 76 * 256 + 9, 133 * 256 + 3};
    for (int end : ends) {
      begin("(also where what was written was cut off since): at " + end);
      int f = file(1, "f");
      put(f, end - 1, "abcde");
      x.truncate(f, end);
      x.truncate(f, end + 3);
      text("longer by truncate", bytes(f, end - 1, 9), "a\0\0\0");
      put(f, end, "12345");
      x.truncate(f, end + 1);
      put(f, end + 4, "x");
      text("longer by write", bytes(f, end - 1, 9), "a1" + "\0\0\0" + "x");
      x.truncate(f, 0);
      put(f, end + 4, "y");
      text("made 0 long", bytes(f, end - 1, 9), "\0\0\0\0\0y");
      x.truncate(f, 0);
      x.truncate(f, end + 4);
      text("made 0 long, then longer by zeros", bytes(f, end - 1, 9), "\0\0\0\0\0");
      due("faults", x.faults(), 0);
    }
  }

  private void goneWithoutLinks() {
    begin("A file without links is gone at once");
    int f = file(1, "f");
    put(f, 256 * 140, "x");
    linked(f, 1, "g");
    due("one is left", unlinked(1, "f"), 1);
    due("still there", x.look(f, 0), 1);
    due("none is left", unlinked(1, "g"), 0);
    for (int what = 0; what <= 4; what++) {
      due("look " + what, x.look(f, what), 0);
    }
    due("blocks", x.count(0), 1);
    due("ids", x.count(5), 1);
    argument("read", () -> x.read(f, 0, 1));
    argument("write", () -> put(f, 0, "x"));
    argument("truncate", () -> x.truncate(f, 0));
    argument("fsync", () -> x.fsync(f));
    argument("link", () -> linked(f, 1, "h"));
    int a = file(1, "a");
    int b = file(1, "b");
    moved(1, "b", 1, "a");
    due("also by rename", x.look(a, 0), 0);
    due("the other has its name", found(1, "a"), b);
    due("blocks", x.count(0), 3);
    due("faults", x.faults(), 0);
  }

  private void blocksOfDirectories() {
    begin("a directory 1, and 1 for each of its names. A file 1");
    due("the root", x.look(1, 3), 1);
    int d = directory(1, "d");
    due("the root", x.look(1, 3), 2);
    due("an empty one", x.look(d, 3), 1);
    int f = file(d, "f");
    due("with a name", x.look(d, 3), 2);
    due("a file", x.look(f, 3), 1);
    linked(f, d, "g");
    due("with two names", x.look(d, 3), 3);
    due("in all", x.count(0), 2 + 3 + 1);
    unlinked(d, "f");
    unlinked(d, "g");
    due("without names", x.look(d, 3), 1);
    due("in all", x.count(0), 3);
  }

  private void nodesForTheSize() {
    begin("none up to 20 blocks, 1 up to 76, 2 up to 132, and above that 3, and one more for each 56 blocks that are begun above 132 (133 blocks: 4)");
    int f = file(1, "f");
    int[] blocks = {1, 20, 76, 132, 188, 244, 300, 356};
    int[] nodes = {0, 0, 1, 2, 4, 5, 6, 7, 8};
    for (int i = 0; i < blocks.length; i++) {
      int size = 256 * blocks[i];
      x.truncate(f, size);
      due("nodes of " + size, x.look(f, 3) - 2, nodes[i]);
      x.truncate(f, size + 1);
      due("nodes of " + (size + 1), x.look(f, 3) - 2, nodes[i + 1]);
      x.truncate(f, size - 1);
      due("nodes of " + (size - 1), x.look(f, 3) - 2, nodes[i]);
    }
    x.truncate(f, LONGEST);
    due("nodes of the longest", x.look(f, 3) - 2, 8);
    x.truncate(f, 256 * 133);
    due("133 blocks", x.look(f, 3) - 2, 4);
    put(f, 256 * 188, "x");
    due("by write", x.look(f, 3), 1 + 2 + 5);
    due("in all", x.count(0), 2 + 8);
  }

  private void smallUpTo96() {
    int[] sizes = {1, 95, 96, 97, 98, 256, 257};
    for (int size : sizes) {
      begin("A file is small as long as its size was never above 96: " + size);
      int small = size <= 96 ? 1 : 0;
      int f = file(1, "f");
      due("at first", x.look(f, 4), 1);
      put(f, size - 1, "x");
      due("by write", x.look(f, 4), small);
      int g = file(1, "g");
      x.truncate(g, size);
      due("by truncate", x.look(g, 4), small);
      due("blocks", x.look(g, 3), small == 1 ? 1 : 2);
      int h = file(1, "h");
      put(h, 0, filled(size, 'h'));
      due("by a write of all of it", x.look(h, 4), small);
      due("blocks", x.look(h, 3), small == 1 ? 1 : 1 + (size + 255) / 256);
      x.sync();
      failAndMount();
      due("behind mount", x.look(f, 4), small);
      text("bytes behind mount", bytes(h, size - 1, 3), "h");
    }
  }

  private void smallNeverAgainBut0Long() {
    begin("since it was made or was last made 0 long");
    int f = file(1, "f");
    put(f, 0, filled(97, 'x'));
    for (int size : new int[] {96, 50, 1}) {
      x.truncate(f, size);
      due("cut to " + size, x.look(f, 4), 0);
      due("block 0 is there", x.look(f, 3), 2);
    }
    x.truncate(f, 0);
    due("made 0 long", x.look(f, 4), 1);
    due("blocks", x.look(f, 3), 1);
    put(f, 0, filled(96, 'y'));
    due("small again", x.look(f, 4), 1);
    text("bytes", bytes(f, 94, 9), "yy");
    put(f, 96, "z");
    due("no more", x.look(f, 4), 0);
    text("bytes", bytes(f, 94, 9), "yyz");
    x.truncate(f, 0);
    x.truncate(f, 0);
    due("0 long twice", x.look(f, 4), 1);
    due("size", x.look(f, 1), 0);
  }

  private void thereByWrite() {
    begin("Blocks are there when a write has touched them");
    int f = file(1, "f");
    x.truncate(f, LONGEST);
    int nodes = 8;
    due("block 0", x.look(f, 3), 1 + 1 + nodes);
    put(f, 256, "a");
    due("block 1, its first byte", x.look(f, 3), 1 + 2 + nodes);
    put(f, 511, "a");
    due("block 1, its last byte", x.look(f, 3), 1 + 2 + nodes);
    put(f, 1023, "ab");
    due("blocks 3 and 4", x.look(f, 3), 1 + 4 + nodes);
    put(f, 1024, filled(256, 'c'));
    due("block 4, all of it", x.look(f, 3), 1 + 4 + nodes);
    put(f, 1280, filled(257, 'c'));
    due("blocks 5 and 6", x.look(f, 3), 1 + 6 + nodes);
    put(f, 256 * 20 - 1, "ab");
    due("blocks 19 and 20", x.look(f, 3), 1 + 8 + nodes);
    put(f, 256 * 76 - 1, "ab");
    due("blocks 75 and 76", x.look(f, 3), 1 + 10 + nodes);
    put(f, 256 * 132 - 1, "ab");
    due("blocks 131 and 132", x.look(f, 3), 1 + 12 + nodes);
    put(f, LONGEST - 1, "z");
    due("the last", x.look(f, 3), 1 + 13 + nodes);
    put(f, LONGEST - 1, "y");
    due("again", x.look(f, 3), 1 + 13 + nodes);
    put(f, 0, "y");
    due("block 0 again", x.look(f, 3), 1 + 13 + nodes);
    due("faults", x.faults(), 0);
  }

  private void thereByCeasingToBeSmall() {
    begin("or when the file ceases to be small, by write or truncate (block 0)");
    int f = file(1, "f");
    put(f, 10, "x");
    due("small", x.look(f, 3), 1);
    put(f, 256 * 5, "y");
    due("blocks 0 and 5", x.look(f, 3), 1 + 2);
    int g = file(1, "g");
    put(g, 256 * 5, "y");
    due("an empty one likewise", x.look(g, 3), 1 + 2);
    int h = file(1, "h");
    put(h, 90, "1234567");
    due("within block 0", x.look(h, 3), 1 + 1);
    int i = file(1, "i");
    x.truncate(i, 97);
    due("by truncate", x.look(i, 3), 1 + 1);
    x.truncate(i, 600);
    due("truncate adds no other", x.look(i, 3), 1 + 1);
    int j = file(1, "j");
    put(j, 0, filled(96, 'j'));
    x.truncate(j, 600);
    due("block 0", x.look(j, 3), 1 + 1);
    text("it has the bytes", bytes(j, 95, 3), "j\0\0");
    int k = file(1, "k");
    put(k, LONGEST - 1, "k");
    due("blocks 0 and 390", x.look(k, 3), 1 + 2 + 8);
    due("faults", x.faults(), 0);
  }

  private void lostBehindTheEnd() {
    begin("a file cut shorter loses those that are wholly behind its end (from 300 to 256 block 1)");
    int f = file(1, "f");
    put(f, 0, filled(300, 'x'));
    due("blocks 0 and 1", x.look(f, 3), 3);
    x.truncate(f, 257);
    due("257: block 1 is begun", x.look(f, 3), 3);
    x.truncate(f, 256);
    due("256: block 1 is behind", x.look(f, 3), 2);
    x.truncate(f, 300);
    due("it does not come back", x.look(f, 3), 2);
    text("nor do its bytes", bytes(f, 255, 3), "x\0\0");
    x.truncate(f, 255);
    due("255", x.look(f, 3), 2);
    x.truncate(f, 1);
    due("1: block 0 is begun", x.look(f, 3), 2);
    x.truncate(f, 0);
    due("made 0 long it is small again and has none", x.look(f, 3), 1);
    int[] edges = {20, 76, 132, 188, 244, 300, 356};
    for (int k : edges) {
      x.truncate(f, 0);
      put(f, 256 * k - 1, "ab");
      int nodes = x.look(f, 3) - 1 - 3;
      x.truncate(f, 256 * k + 1);
      due("begun, " + k, x.look(f, 3), 1 + 3 + nodes);
      x.truncate(f, 256 * k);
      int fewer = k == 132 ? 2 : 1;
      due("behind, " + k, x.look(f, 3), 1 + 2 + nodes - fewer);
      text("the byte ahead", bytes(f, 256 * k - 1, 2), "a");
    }
    due("faults", x.faults(), 0);
  }

  private void freshIsTheSum() {
    begin("FRESH is the sum of the needs of all calls since then that did not throw (also when they changed nothing");
    int fresh = 0;
    file(1, "f");
    due("make", x.count(2), fresh += 4);
    directory(1, "d");
    due("makeDirectory", x.count(2), fresh += 4);
    linked(2, 3, "l");
    due("link", x.count(2), fresh += 4);
    put(2, 0, "x");
    due("write", x.count(2), fresh += 7);
    x.truncate(2, 1);
    due("truncate that changes nothing", x.count(2), fresh += 6);
    moved(1, "f", 1, "g");
    due("rename", x.count(2), fresh += 8);
    moved(1, "g", 3, "l");
    due("rename that changes nothing", x.count(2), fresh += 8);
    unlinked(3, "l");
    due("unlink", x.count(2), fresh += 4);
    x.removeDirectory(1, fed("d"));
    due("removeDirectory", x.count(2), fresh += 4);
    due("found", found(1, "g"), 2);
    x.read(2, 0, 1);
    x.name(1, 0);
    x.look(2, 0);
    x.tape(0);
    x.clean();
    x.faults();
    x.cut(-1);
    due("others need nothing", x.count(2), fresh);
    argument("what throws", () -> x.truncate(2, -1));
    state("what throws", () -> file(1, "g"));
    due("needs nothing", x.count(2), fresh);
    due("USED", x.count(1), 1);
    due("checkpoints", x.count(3), 1);
    x.sync();
    due("0 at a checkpoint", x.count(2), 0);
    due("USED", x.count(1), 3);
  }

  private void freshBehindFsync() {
    begin("0 behind an fsync that answers 1)");
    file(1, "f");
    due("by a checkpoint", x.fsync(2), 1);
    due("FRESH", x.count(2), 0);
    due("by the file alone", x.fsync(2), 0);
    due("FRESH", x.count(2), 1);
    due("again", x.fsync(2), 0);
    due("FRESH", x.count(2), 2);
    linked(2, 1, "g");
    due("by a checkpoint", x.fsync(2), 1);
    due("FRESH", x.count(2), 0);
    due("USED", x.count(1), 4);
  }

  private void noCheckpointWhenItThrows() {
    begin("(when it does not throw otherwise; then no checkpoint is taken)");
    file(1, "f");
    int d = directory(1, "d");
    file(d, "e");
    for (int i = 0; i < 46; i++) {
      linked(2, 1, "l" + (char) (50 + i));
    }
    x.sync();
    fillRoom(384, 2, 0, 2);
    state("a full directory", () -> file(1, "z"));
    state("a full directory", () -> directory(1, "z"));
    state("a full directory", () -> linked(2, 1, "z"));
    state("a full other directory", () -> moved(d, "e", 1, "z"));
    state("not there", () -> unlinked(1, "z"));
    state("with names", () -> x.removeDirectory(1, fed("d")));
    state("into itself", () -> moved(1, "d", d, "z"));
    argument("no such bytes", () -> put(2, LONGEST, "z"));
    argument("no such size", () -> x.truncate(2, LONGEST + 1));
    argument("no such file", () -> x.fsync(99));
    due("checkpoints", x.count(3), 2);
    due("USED and FRESH", x.count(1) + x.count(2), 384);
    moved(1, "f", 1, "f");
    due("one that does not throw takes it", x.count(3), 3);
    due("FRESH", x.count(2), 8);
  }

  private void checkpointIsACommit() {
    begin("A CHECKPOINT (also by format, sync, mount) is a COMMIT: all that is so now is what comes back when the power fails");
    due("by format", x.count(3), 1);
    failAndMount();
    text("the root alone", tree(), "; 1: 2 0 1 1 0" + none(2));
    due("by mount", x.count(3), 2);
    file(1, "a");
    put(2, 0, "hello");
    due("by sync", x.sync(), 3);
    failAndMount();
    String tree = "; 1: 2 1 1 2 0 a; 2: 1 5 1 1 1 104 101 108 111";
    text("the file", tree(), tree + none(3));
    put(2, 300, "x");
    directory(1, "d");
    while (x.count(2) + 6 <= 384 - 4) {
      x.truncate(2, 301);
    }
    due("not yet", x.count(3), 4);
    x.truncate(2, 301);
    due("by a need", x.count(3), 5);
    x.truncate(2, 0);
    failAndMount();
    tree = "; 1: 2 2 1 3 0 a d; 2: 1 301 1 3 0 104 101 0 120; 3: 2 0 1 1 0";
    text("all of it", tree(), tree + none(4));
    due("by mount", x.count(3), 6);
    file(3, "n");
    due("by fsync", x.fsync(4), 1);
    moved(3, "n", 1, "m");
    failAndMount();
    due("names", found(3, "n"), 4);
    due("names", found(1, "m"), -1);
    due("checkpoints", x.count(3), 8);
  }

  private void fsyncByACheckpoint() {
    begin("was neither made, linked, unlinked nor renamed (any of its names, nor lost one to another file's; a rename that changes nothing is none) since");
    int f = file(1, "f");
    int g = file(1, "g");
    due("made", x.fsync(f), 1);
    linked(f, 1, "f2");
    due("linked", x.fsync(f), 1);
    linked(f, 1, "f3");
    unlinked(1, "f3");
    due("linked and unlinked", x.fsync(f), 1);
    unlinked(1, "f2");
    due("unlinked", x.fsync(f), 1);
    linked(f, 1, "f2");
    x.sync();
    moved(1, "f2", 1, "f4");
    due("renamed, its second name", x.fsync(f), 1);
    moved(1, "f4", 1, "f5");
    moved(1, "f5", 1, "f4");
    due("renamed and back", x.fsync(f), 1);
    int d = directory(1, "d");
    x.sync();
    moved(1, "f", d, "f");
    due("renamed into another directory", x.fsync(f), 1);
    moved(1, "g", 1, "f4");
    due("lost a name to another file's", x.fsync(f), 1);
    moved(1, "f4", 1, "g");
    due("the other one was renamed", x.fsync(g), 1);
    moved(d, "f", d, "f");
    due("a rename that changes nothing", x.fsync(f), 0);
    linked(f, 1, "f");
    x.sync();
    moved(1, "f", d, "f");
    due("between two of its names", x.fsync(f), 0);
    x.sync();
    state("a rename that throws", () -> moved(1, "f", 1, "d"));
    state("a link that throws", () -> linked(f, 1, "g"));
    state("an unlink that throws", () -> unlinked(1, "zz"));
    due("is none", x.fsync(f), 0);
  }

  private void fsyncAlone() {
    begin("is a commit of this file alone: its size and bytes come back as they are now");
    int f = file(1, "f");
    int g = file(1, "g");
    int d = directory(1, "d");
    x.sync();
    put(f, 0, "one");
    put(g, 0, "two");
    moved(1, "d", 1, "e");
    linked(g, d, "l");
    file(d, "new");
    due("others were changed, this one alone", x.fsync(f), 0);
    due("no checkpoint", x.count(3), 2);
    x.power();
    due("brought forward", x.mount(), 1);
    text("its bytes", bytes(f, 0, 9), "one");
    due("not the other's", x.look(g, 1), 0);
    due("nor the names", found(1, "e"), -1);
    due("nor the names", x.look(d, 1), 0);
    due("nor the links", x.look(g, 2), 1);
    due("faults", x.faults(), 0);
  }

  private void fsyncBehindItsOwnCheckpoint() {
    begin("(also one that was taken before this very call)");
    int f = file(1, "f");
    x.sync();
    int g = file(1, "g");
    fillRoom(384, f, 0, f);
    due("a new one: the need's checkpoint has it", x.fsync(g), 0);
    due("checkpoints", x.count(3), 3);
    due("FRESH", x.count(2), 1);
    x.power();
    due("brought forward", x.mount(), 1);
    due("it is there", x.look(g, 0), 1);
    moved(1, "g", 1, "h");
    fillRoom(384, f, 0, f);
    due("one that was renamed", x.fsync(g), 0);
    due("checkpoints", x.count(3), 5);
    due("FRESH", x.count(2), 1);
    linked(g, 1, "i");
    due("linked since", x.fsync(g), 1);
    due("checkpoints", x.count(3), 6);
  }

  private void fsyncWithNothingNew() {
    begin("(it is a commit also when nothing is new)");
    int f = file(1, "f");
    int g = file(1, "g");
    put(f, 0, "old");
    x.sync();
    due("alone", x.fsync(f), 0);
    x.power();
    due("it is brought forward", x.mount(), 1);
    due("count", x.count(4), 1);
    text("bytes", bytes(f, 0, 9), "old");
    due("alone", x.fsync(f), 0);
    due("alone", x.fsync(g), 0);
    due("alone", x.fsync(f), 0);
    x.power();
    due("each file once", x.mount(), 2);
    x.cut(0);
    unsupported("a cut meets it", () -> x.fsync(f));
    due("none", x.mount(), 0);
    put(f, 0, "new");
    x.fsync(f);
    x.fsync(f);
    x.power();
    due("twice", x.mount(), 1);
    text("bytes", bytes(f, 0, 9), "new");
  }

  private void fsyncOfOneThatIsGoneLater() {
    begin("even when it is gone later");
    int f = file(1, "f");
    int g = file(1, "g");
    int h = file(1, "h");
    x.sync();
    put(f, 0, "eff");
    put(g, 256 * 140, "gee");
    put(h, 0, filled(97, 'h'));
    x.fsync(f);
    x.fsync(g);
    x.fsync(h);
    unlinked(1, "f");
    unlinked(1, "g");
    moved(1, "h", 1, "i");
    int i = file(1, "f");
    due("another id", i, 5);
    put(i, 0, "other");
    x.power();
    due("all three", x.mount(), 3);
    due("f", found(1, "f"), f);
    text("its bytes", bytes(f, 0, 9), "eff");
    text("g's bytes", bytes(g, 256 * 140 - 1, 9), "\0gee");
    due("h has its name", found(1, "h"), h);
    due("and its size", x.look(h, 1), 97);
    due("the other is none", x.look(i, 0), 0);
    due("faults", x.faults(), 0);
  }

  private void laterFsyncOrCheckpoint() {
    begin("unless a later fsync of it or a checkpoint comes");
    int f = file(1, "f");
    int g = file(1, "g");
    x.sync();
    put(f, 0, "one");
    x.fsync(f);
    put(f, 0, "two and");
    x.fsync(f);
    put(f, 0, "three");
    x.power();
    due("one file", x.mount(), 1);
    text("the later fsync", bytes(f, 0, 9), "two and");
    put(f, 0, "four");
    x.fsync(f);
    x.truncate(f, 2);
    x.sync();
    x.power();
    due("none", x.mount(), 0);
    text("the checkpoint", bytes(f, 0, 9), "fo");
    put(f, 0, "five");
    x.fsync(f);
    unlinked(1, "f");
    linked(g, 1, "gg");
    due("a checkpoint by another's fsync", x.fsync(g), 1);
    x.power();
    due("none", x.mount(), 0);
    due("it is gone", x.look(f, 0), 0);
    due("its id is free", file(1, "h"), f);
  }

  private void mountGivesTheTree() {
    begin("mount() gives the tree of the latest checkpoint, and in it each file for which an fsync by itself came later with size and bytes");
    int d = directory(1, "d");
    int f = file(d, "f");
    linked(f, 1, "l");
    x.sync();
    file(1, "a");
    put(f, 0, "hello");
    x.fsync(f);
    unlinked(1, "l");
    moved(1, "d", 1, "e");
    unlinked(d, "f");
    x.removeDirectory(1, fed("e"));
    due("names since", x.look(1, 1), 1);
    x.power();
    due("brought forward", x.mount(), 1);
    text("the tree", tree(), "; 1: 2 2 1 3 0 d l; 2: 2 1 1 2 0 f; 3: 1 5 2 1 1 104 101 108 111" + none(4));
    due("USED", x.count(1), 6);
    due("faults", x.faults(), 0);
  }

  private void mountGivesBlocksAndSmall() {
    begin("(and blocks that are there, and whether it is small) of the latest such one");
    int[] f = new int[4];
    for (int i = 0; i < f.length; i++) {
      f[i] = file(1, "f" + i);
    }
    put(f[1], 256 * 140, "x");
    put(f[2], 256 * 390, "x");
    put(f[3], 97, "x");
    x.sync();
    put(f[0], 256 * 21, "y");
    x.truncate(f[1], 0);
    x.truncate(f[1], 96);
    x.truncate(f[2], 256 * 390);
    put(f[2], 256 * 77, "z");
    x.truncate(f[3], 96);
    for (int id : f) {
      due("alone", x.fsync(id), 0);
    }
    x.truncate(f[0], 0);
    put(f[1], 500, "later");
    x.truncate(f[2], 1);
    x.truncate(f[3], 0);
    x.power();
    due("brought forward", x.mount(), 4);
    int[][] want = {{256 * 21 + 1, 1 + 2 + 1, 0}, {96, 1, 1}, {256 * 390, 1 + 2 + 8, 0}, {96, 1 + 1, 0}};
    for (int i = 0; i < f.length; i++) {
      due("size of " + i, x.look(f[i], 1), want[i][0]);
      due("blocks of " + i, x.look(f[i], 3), want[i][1]);
      due("small " + i, x.look(f[i], 4), want[i][2]);
    }
    text("bytes", bytes(f[0], 256 * 21, 3), "y");
    text("bytes", bytes(f[1], 94, 9), "\0\0");
    text("bytes", bytes(f[2], 256 * 77, 2), "z\0");
    due("in use", x.count(0), 1 + 4 + 4 + 1 + 11 + 2);
    due("faults", x.faults(), 0);
  }

  private void mountTakesACheckpoint() {
    begin("then it takes a checkpoint");
    int f = file(1, "f");
    x.sync();
    put(f, 0, "x");
    x.fsync(f);
    x.power();
    due("brought forward", x.mount(), 1);
    due("checkpoints", x.count(3), 3);
    due("FRESH", x.count(2), 0);
    x.power();
    due("nothing to bring forward", x.mount(), 0);
    due("checkpoints", x.count(3), 4);
    text("bytes", bytes(f, 0, 9), "x");
    x.power();
    due("and again", x.mount(), 0);
    due("checkpoints", x.count(3), 5);
  }

  /** All numbers, on commits of each kind, from two states of the device: its checkpoints come by turns. */
  private void cutOfAnyNumber() {
    for (int blocks = 0; blocks <= 80; blocks++) {
      cutBehind(blocks, blocks % 2);
    }
    for (int blocks : new int[] {100, 1000, 65536, MAX - 1, MAX}) {
      cutBehind(blocks, 0);
      cutBehind(blocks, 1);
    }
  }

  private void cutBehind(int blocks, int more) {
    begin("it is as if it had not been begun (whatever the number is): " + blocks);
    int f = file(1, "f");
    put(f, 256 * 21, "kept");
    for (int i = 0; i <= more; i++) {
      x.sync();
    }
    put(f, 0, "alone");
    x.fsync(f);
    for (int kind = 0; kind < 3; kind++) {
      put(f, 256 * 21, "lost");
      x.cut(blocks);
      if (kind == 0) {
        unsupported("fsync alone", () -> x.fsync(f));
      } else {
        int g = file(1, "g");
        unsupported("a checkpoint", kind == 1 ? () -> x.sync() : () -> x.fsync(g));
      }
      due("brought forward", x.mount(), kind == 0 ? 1 : 0);
      text("bytes", bytes(f, 256 * 21, 9), "kept");
      text("bytes", bytes(f, 0, 5), "alone");
      due("names", x.look(1, 1), 1);
      due("checkpoints", x.count(3), 3 + more + kind);
      due("faults", x.faults(), 0);
    }
  }

  private void cutDidNothingElse() {
    begin("the call throws UnsupportedOperationException, and did nothing else (but that the tape is used up)");
    int f = file(1, "f");
    x.sync();
    x.name(1, 0);
    on("tape");
    for (int kind = 0; kind < 3; kind++) {
      x.cut(1);
      unsupported("cut", kind == 0 ? () -> x.sync() : () -> x.fsync(f));
      due("sync and fsync leave the tape", x.tape(0), 4);
      due("what was told stays", x.byteAt(0), 'f');
      x.mount();
      due("brought forward", x.count(4), 0);
      due("checkpoints", x.count(3), 3 + kind);
    }
  }

  private void cleanNeverCommits() {
    begin("clean() never commits");
    int f = file(1, "f");
    x.sync();
    put(f, 0, "lost");
    x.cut(0);
    goes("clean", () -> x.clean());
    goes("clean", () -> x.clean());
    due("checkpoints", x.count(3), 2);
    unsupported("the cut still waits", () -> x.sync());
    x.mount();
    due("nothing was committed", x.look(f, 1), 0);
    put(f, 0, "lost");
    x.clean();
    failAndMount();
    due("nothing was committed", x.look(f, 1), 0);
  }

  private void laterCutCounts() {
    begin("of two cuts the later counts");
    int[][] pairs = {{0, -1}, {MAX, -1}, {5, MIN}, {-1, 0}, {MIN, 3}, {0, 9}, {9, 0}, {-1, -1}};
    for (int[] p : pairs) {
      x.cut(p[0]);
      x.cut(p[1]);
      if (p[1] < 0) {
        goes("no cut", () -> x.sync());
      } else {
        unsupported("a cut", () -> x.sync());
        x.mount();
      }
    }
    due("each of the eight was a checkpoint or a mount's", x.count(3), 9);
  }

  private void cutIsForgotten() {
    begin("The cut is forgotten then, and whenever the power fails");
    int f = file(1, "f");
    x.sync();
    x.cut(0);
    unsupported("cut", () -> x.sync());
    x.mount();
    due("forgotten then", x.sync(), 4);
    x.cut(0);
    x.power();
    x.mount();
    due("forgotten when the power failed", x.sync(), 6);
    due("also for a file", x.fsync(f), 0);
    x.cut(0);
    x.format(48, 24);
    due("forgotten by format", x.sync(), 2);
    x.cut(0);
    argument("no device", () -> x.format(48, 23));
    unsupported("not by a format that throws", () -> x.sync());
  }
}
