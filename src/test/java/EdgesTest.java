/**
 * The edges that the promises name, one sentence after another; each test begins with the promise's
 * number and the words it tries. What throws is tried in RefusalsTest, what needs room in RoomTest.
 */
public final class EdgesTest extends Trial {
  private static final int LONGEST = 100000;

  public static void main(String[] args) {
    EdgesTest t = new EdgesTest();
    t.newObject();
    t.formatNumbers();
    t.formatIsNew();
    t.formatThrows();
    t.feedOrder();
    t.feedFull();
    t.tapeNumbers();
    t.makeTakesTheFirstBytes();
    t.everyNameIsThere();
    t.usedUp();
    t.idsNowOrAtTheLatestCheckpoint();
    t.idsCountedOnce();
    t.noCheckpointForIds();
    t.makeDirectoryLikewise();
    t.linkLikewise();
    t.unlinkCounts();
    t.removeDirectoryOfNone();
    t.renameLengths();
    t.renameOver();
    t.renameSameId();
    t.renameAndFullDirectories();
    t.renameIntoItself();
    t.findLengths();
    t.writeNumbers();
    t.writePlaces();
    t.readNumbers();
    t.readPlaces();
    t.byteAtRange();
    t.byteAtOfNothing();
    t.truncateSizes();
    t.fsyncAnswers();
    t.syncCounts();
    t.nameOrder();
    t.nameNumbers();
    t.lookNumbers();
    t.countNumbers();
    t.countOfMount();
    t.powerOff();
    t.cutBelow0();
    t.mountOnlyWithoutPower();
    t.cleanChangesNothing();
    t.noFaults();
    t.end();
  }

  private void newObject() {
    beginWithoutDevice("1: No device yet: all calls but format(), feed(), tape(), byteAt() throw IllegalStateException");
    withoutPower();
    state("also mount()", () -> x.mount());
    due("tape", x.tape(0), 0);
    due("tape", x.tape(1), 0);
    due("byteAt", x.byteAt(0), -1);
    due("byteAt", x.byteAt(MAX), -1);
    argument("byteAt", () -> x.byteAt(-1));
    for (int i = 1; i <= 103; i++) {
      due("feed", x.feed(0x61616161, 0, 0, 0, 0), 20 * i);
    }
    state("feed, when it is full", () -> x.feed(0, 0, 0, 0, 0));
    argument("format", () -> x.format(47, 24));
    withoutPower();
    state("still no device", () -> x.mount());
    due("tape", x.tape(0), 2060);
    x.format(48, 24);
    due("the tape was fed before", x.make(1, 4), 2);
  }

  private void formatNumbers() {
    int[][] some = {{48, 24}, {49, 24}, {50, 24}, {50, 25}, {51, 25}, {127, 63}, {128, 24}, {128, 63}, {128, 64}};
    int[][] none = {{47, 23}, {47, 24}, {48, 23}, {48, 25}, {49, 25}, {50, 26}, {51, 26}, {127, 64}, {128, 23},
        {128, 65}, {129, 24}, {129, 64}};
    for (int[] n : some) {
      begin("2: S (48 .. 128) segments and R (24 .. S / 2): " + n[0] + ", " + n[1]);
      goes("format", () -> x.format(n[0], n[1]));
      // One byte in each of some blocks, until the first checkpoint that room asks for.
      int f = file(1, "f");
      for (int i = 0; i < 30; i++) {
        put(f, 256 * 13 * i, "b" + (char) (i + 1));
      }
      x.sync();
      failAndMount();
      for (int i = 0; i < 30; i++) {
        text("bytes", bytes(f, 256 * 13 * i, 2), "b" + (char) (i + 1));
      }
      due("faults", x.faults(), 0);
    }
    begin("2: IllegalArgumentException: the numbers are not so");
    for (int[] n : none) {
      argument(n[0] + ", " + n[1], () -> x.format(n[0], n[1]));
    }
  }

  private void formatIsNew() {
    begin("2: formatted: the root alone, a checkpoint; mounted. A cut that waits is forgotten");
    int d = directory(1, "d");
    put(file(d, "f"), 256 * 200, "x");
    x.sync();
    put(3, 0, "y");
    x.fsync(3);
    failAndMount();
    x.cut(0);
    x.format(60, 30);
    newlyFormatted();
    x.power();
    x.format(48, 24);
    newlyFormatted();
    file(1, "f");
    failAndMount();
    due("what comes back is the root alone", x.look(1, 1), 0);
    due("checkpoints", x.count(3), 3);
  }

  private void newlyFormatted() {
    int[] counts = {1, 1, 0, 1, 0, 1};
    for (int what = 0; what <= 5; what++) {
      due("count " + what, x.count(what), counts[what]);
    }
    for (int id = 2; id <= 6; id++) {
      due("look", x.look(id, 0), 0);
    }
    due("no names", x.name(1, 0), -1);
    state("mounted", () -> x.mount());
    due("no cut", x.sync(), 2);
    due("faults", x.faults(), 0);
  }

  private void formatThrows() {
    begin("2: IllegalArgumentException: the numbers are not so (all stays as it was)");
    file(1, "f");
    x.sync();
    put(2, 0, "x");
    x.fsync(2);
    failAndMount();
    put(2, 1, "y");
    x.cut(4);
    on("tape");
    x.name(1, 0);
    String before = all();
    argument("format", () -> x.format(48, 25));
    text("all that is told", all(), before);
    unsupported("the cut waits", () -> x.sync());
    argument("format", () -> x.format(129, 24));
    withoutPower();
    due("the device stays", x.mount(), 0);
    text("bytes", bytes(2, 0, 9), "x");
  }

  private void feedOrder() {
    begin("3: Twenty bytes more on the tape, the highest byte of each int first: how many");
    int f = file(1, "f");
    due("twenty", x.feed(0x01020304, 0x7F8081FF, MIN, MAX, -1), 20);
    due("twenty more", x.feed(0, 1, -2, 0x61626364, 0x12345678), 40);
    x.write(f, 0, 40);
    int[] want = {1, 2, 3, 4, 127, 128, 129, 255, 128, 0, 0, 0, 127, 255, 255, 255, 255, 255, 255, 255,
        0, 0, 0, 0, 0, 0, 0, 1, 255, 255, 255, 254, 'a', 'b', 'c', 'd', 0x12, 0x34, 0x56, 0x78};
    due("read", x.read(f, 0, 2000), 40);
    for (int i = 0; i < want.length; i++) {
      due("byte " + i, x.byteAt(i), want[i]);
    }
  }

  private void feedFull() {
    begin("3: IllegalStateException: there would be more than 2,060 (none of them comes)");
    int f = file(1, "f");
    fed(filled(2040, 'a'));
    due("up to 2,060", x.feed(0x62626262, 0x62626262, 0x62626262, 0x62626262, 0x62626262), 2060);
    state("full", () -> x.feed(-1, -1, -1, -1, -1));
    due("none of them comes", x.tape(0), 2060);
    x.tape(2041);
    state("twenty more would be 2,061", () -> x.feed(-1, -1, -1, -1, -1));
    due("none of them comes", x.tape(0), 2041);
    due("2,040", x.tape(2040), 2040);
    due("up to 2,060 again", x.feed(0x63636363, 0, 0, 0, 0x64646464), 2060);
    due("the first 2,000", x.write(f, 98000, 2000), LONGEST);
    text("bytes", bytes(f, LONGEST - 2, 5), "aa");
    due("used up", x.tape(0), 0);
    fed(filled(1980, 'a'));
    x.feed(0x62626262, 0x63636363, 0x64646464, 0x65656565, 0x66666666);
    x.write(f, 0, 2000);
    text("the end of the tape", bytes(f, 1978, 23), "aa" + "bbbb" + "cccc" + "dddd" + "eeee" + "ffff" + "\0");
  }

  private void tapeNumbers() {
    begin("4: k above 0: the tape has only its first k bytes then (all, when there are fewer; otherwise nothing changes)");
    for (int k : new int[] {0, 1, -1, MAX, MIN}) {
      due("empty, " + k, x.tape(k), 0);
    }
    fed("abcdefghijklmnopqrst");
    for (int k : new int[] {0, -1, MIN, MAX, 21, 20}) {
      due("twenty, " + k, x.tape(k), 20);
    }
    due("19", x.tape(19), 19);
    due("no more come back", x.tape(20), 19);
    due("2", x.tape(2), 2);
    due("1", x.tape(1), 1);
    due("0 changes nothing", x.tape(0), 1);
    due("the first byte", x.make(1, 1), 2);
    text("is the name", told(x.name(1, 0)), "a");
    fed("abc");
    x.tape(2);
    fed("x");
    due("what is fed comes behind them", x.make(1, 3), 3);
    text("is the name", told(x.name(1, 1)), "abx");
  }

  private void makeTakesTheFirstBytes() {
    begin("5: A new file with the tape's first n bytes as its name in a directory: its id");
    fed("abcdefghijklmnopqrstuvwxyz");
    due("id", x.make(1, 1), 2);
    fed("abcdefghijklmnopqrstuvwxyz");
    due("id", x.make(1, 20), 3);
    on("abc");
    due("all of the tape", x.make(1, 3), 4);
    text("name 0", told(x.name(1, 0)), "a");
    text("name 1", told(x.name(1, 1)), "abc");
    text("name 2", told(x.name(1, 2)), "abcdefghijklmnopqrst");
    text("a new one", "" + x.look(4, 0) + x.look(4, 1) + x.look(4, 2) + x.look(4, 3) + x.look(4, 4), "10111");
    due("needs 4 each", x.count(2), 12);
  }

  /** A full directory: each of its names is found and refused, goes, and comes again. */
  private void everyNameIsThere() {
    begin("5: IllegalStateException: the name is there, the directory has 48");
    int d = directory(1, "d");
    int f = file(1, "f");
    for (int i = 0; i < 47; i++) {
      linked(f, d, "" + (char) (50 + i));
    }
    for (int i = 0; i < 47; i++) {
      String name = "" + (char) (50 + i);
      state("there", () -> file(d, name));
      due("found", found(d, name), f);
    }
    int g = file(d, "z");
    due("the 48th", x.look(d, 1), 48);
    state("there", () -> file(d, "z"));
    state("full", () -> file(d, "zz"));
    due("found", found(d, "z"), g);
    for (int i = 0; i < 47; i++) {
      due("goes", unlinked(d, "" + (char) (50 + i)), 47 - i);
    }
    due("the last one stays", x.name(d, 0), 1);
    due("found", found(d, "z"), g);
    due("faults", x.faults(), 0);
  }

  /** Each of the eight calls, when it goes and when it throws; the other calls; and without power. */
  private void usedUp() {
    begin("5: The tape is used up (all of it) by this and the next six calls, and by write, also when they throw (but while there is no power)");
    int f = file(1, "f");
    directory(1, "d");
    Call[] calls = {
      () -> x.make(1, 1), () -> x.makeDirectory(1, 1), () -> x.link(f, 1, 1), () -> x.unlink(1, 1),
      () -> x.removeDirectory(1, 1), () -> x.rename(1, 1, 1, 1), () -> x.find(1, 1), () -> x.write(f, 0, 1)
    };
    String[] fits = {"m", "n", "l", "l", "n", "fg", "g", "w"};
    for (int i = 0; i < calls.length; i++) {
      fed(fits[i] + filled(50, 'x'));
      goes("call " + i, calls[i]);
      due("the tape behind call " + i, x.tape(0), 0);
    }
    Call[] wrongs = {
      () -> x.make(1, 0), () -> x.makeDirectory(1, 0), () -> x.link(f, 1, 0), () -> x.unlink(1, 0),
      () -> x.removeDirectory(1, 0), () -> x.rename(1, 0, 1, 1), () -> x.find(1, 0), () -> x.write(f, 0, 0)
    };
    for (int i = 0; i < wrongs.length; i++) {
      fed(filled(41, 'x'));
      argument("wrong call " + i, wrongs[i]);
      due("the tape behind wrong call " + i, x.tape(0), 0);
    }
    on("keep");
    Call[] others = {
      () -> x.read(f, 0, 1), () -> x.byteAt(0), () -> x.truncate(f, 3), () -> x.fsync(f), () -> x.sync(),
      () -> x.name(1, 0), () -> x.look(1, 0), () -> x.count(0), () -> x.cut(-1), () -> x.clean(), () -> x.faults(),
      () -> x.power()
    };
    for (int i = 0; i < others.length; i++) {
      goes("other call " + i, others[i]);
      due("other call " + i + " leaves it", x.tape(0), 4);
    }
    for (int i = 0; i < calls.length; i++) {
      state("call " + i + " without power", calls[i]);
      due("it stays", x.tape(0), 4);
    }
    goes("mount", () -> x.mount());
    due("mount leaves it", x.tape(0), 4);
  }

  /** Makes files, and a directory for each 48, until so many ids are in use; returns the last directory. */
  private int makeUpTo(int ids) {
    return makeMore(1, ids, 1);
  }

  private int makeMore(int from, int ids, int directory) {
    int dir = directory;
    for (int made = from; made < ids; made++) {
      int i = (made - 1) % 49;
      if (i == 0) {
        dir = directory(1, "d" + made);
        due("a directory's id", dir, made + 1);
      } else {
        due("a file's id", file(dir, "" + (char) (49 + i)), made + 1);
      }
    }
    return dir;
  }

  private void idsNowOrAtTheLatestCheckpoint() {
    beginWithoutDevice("5: there are 250 ids in use (now or at the latest checkpoint");
    x.format(128, 24);
    int last = makeUpTo(249);
    x.sync();
    unlinked(2, "2");
    due("249 at the latest checkpoint, 248 now: one more goes", file(last, "y"), 250);
    due("ids", x.count(5), 249);
    state("all 250 are in use now or then", () -> file(2, "z"));
    due("no checkpoint was taken", x.count(3), 2);
    unlinked(last, "y");
    due("one that was made since is free at once", directory(last, "y"), 250);
  }

  private void idsCountedOnce() {
    beginWithoutDevice("5: each counted once");
    x.format(128, 24);
    int last = makeUpTo(140);
    x.sync();
    makeMore(140, 250, last);
    due("140 are in use now and then, 110 now", x.count(5), 250);
    state("no more", () -> file(1, "z"));
  }

  private void noCheckpointForIds() {
    beginWithoutDevice("5: no checkpoint is taken for it");
    x.format(126, 63);
    makeUpTo(250);
    x.truncate(250, 0);
    linked(250, 1, "k");
    due("the room is gone", x.count(1) + x.count(2), 16 * 63 - 1);
    state("make", () -> file(1, "z"));
    due("no checkpoint", x.count(3), 1);
    state("makeDirectory", () -> directory(1, "z"));
    due("no checkpoint", x.count(3), 1);
    due("the tape is used up", x.tape(0), 0);
  }

  private void makeDirectoryLikewise() {
    begin("6: Likewise a new directory");
    due("one byte", directory(1, "d"), 2);
    due("twenty", directory(1, filled(20, 'd')), 3);
    due("within", directory(2, "d"), 4);
    text("a new one", "" + x.look(4, 0) + x.look(4, 1) + x.look(4, 2) + x.look(4, 3) + x.look(4, 4), "20110");
    due("needs 4 each", x.count(2), 12);
    int deep = 4;
    for (int i = 0; i < 60; i++) {
      deep = directory(deep, "d");
    }
    due("sixty deep", deep, 64);
    x.sync();
    failAndMount();
    due("behind mount", found(63, "d"), 64);
    due("faults", x.faults(), 0);
  }

  private void linkLikewise() {
    begin("7: One more name for a file: how many links it has");
    int f = file(1, "f");
    int d = directory(1, "d");
    due("the same name in another directory", linked(f, d, "f"), 2);
    due("twenty bytes", linked(f, d, filled(20, 'f')), 3);
    put(f, 0, "bytes");
    due("no id is used up", file(d, "g"), 4);
    due("in use", x.count(0), 3 + 1 + 4 + 1);
    text("a file of any size", bytes(found(d, "f"), 0, 9), "bytes");
    x.truncate(f, LONGEST);
    due("also when it is long", linked(f, d, "h"), 4);
    due("the size stays", x.look(f, 1), LONGEST);
    due("faults", x.faults(), 0);
  }

  private void unlinkCounts() {
    begin("8: Takes a file's name away: how many links it has then");
    int f = file(1, "a");
    linked(f, 1, "b");
    linked(f, 1, "c");
    due("two", unlinked(1, "b"), 2);
    due("not there", found(1, "b"), -1);
    due("the others are", found(1, "c"), f);
    due("one", unlinked(1, "a"), 1);
    due("none", unlinked(1, "c"), 0);
    due("names", x.look(1, 1), 0);
    state("no more", () -> unlinked(1, "c"));
    due("the name can come again", file(1, "c"), 2);
    x.sync();
    put(2, 0, "x");
    due("one that was committed", unlinked(1, "c"), 0);
    failAndMount();
    due("comes back when the power fails", found(1, "c"), 2);
    due("as it was", x.look(2, 1), 0);
  }

  private void removeDirectoryOfNone() {
    begin("9: Removes a directory by its name (...) it has names");
    int d = directory(1, "d");
    int f = file(d, "f");
    state("one name", () -> x.removeDirectory(1, fed("d")));
    unlinked(d, "f");
    goes("none", () -> x.removeDirectory(1, fed("d")));
    for (int what = 0; what <= 4; what++) {
      due("look " + what, x.look(d, what), 0);
    }
    argument("gone", () -> file(d, "f"));
    argument("gone", () -> x.name(d, 0));
    due("in use", x.count(0), 1);
    due("ids", x.count(5), 1);
    due("the file is gone, too", x.look(f, 0), 0);
    state("twice", () -> x.removeDirectory(1, fed("d")));
    due("faults", x.faults(), 0);
  }

  private void renameLengths() {
    begin("10: The tape's first n bytes, a name in a directory, become the m behind them");
    int f = file(1, "a");
    moved(1, "a", 1, filled(20, 'b'));
    due("1 and 20", found(1, filled(20, 'b')), f);
    moved(1, filled(20, 'b'), 1, filled(20, 'c'));
    due("20 and 20", found(1, filled(20, 'c')), f);
    moved(1, filled(20, 'c'), 1, "d");
    due("20 and 1", found(1, "d"), f);
    fed("defg");
    x.rename(1, 1, 1, 2);
    due("more on the tape", found(1, "ef"), f);
    due("names", x.look(1, 1), 1);
    due("needs 8 each", x.count(2), 4 + 4 * 8);
    argument("21 and 1", () -> moved(1, filled(21, 'd'), 1, "d"));
    argument("1 and 21", () -> moved(1, "d", 1, filled(21, 'd')));
    argument("the tape has n, not m", () -> x.rename(1, on("ef"), 1, 1));
    due("it is there", found(1, "ef"), f);
  }

  private void renameOver() {
    begin("10: When that is there, it goes: a file's for a file's (it loses a link), an empty directory's for a directory's");
    int a = file(1, "a");
    int b = file(1, "b");
    linked(b, 1, "b2");
    moved(1, "a", 1, "b");
    due("it lost a link", x.look(b, 2), 1);
    due("a's name", found(1, "b"), a);
    due("a's links", x.look(a, 2), 1);
    moved(1, "b", 1, "b2");
    due("it lost its last", x.look(b, 0), 0);
    due("a's name", found(1, "b2"), a);
    int d = directory(1, "d");
    int e = directory(1, "e");
    int f = file(e, "f");
    moved(1, "e", 1, "d");
    due("the empty one went", x.look(d, 0), 0);
    due("e's name", found(1, "d"), e);
    due("with all that is in it", found(e, "f"), f);
    int g = directory(e, "g");
    int h = directory(1, "h");
    int i = directory(1, "i");
    file(i, "j");
    state("a directory with one name does not go", () -> moved(1, "h", 1, "i"));
    unlinked(i, "j");
    moved(1, "i", 1, "h");
    due("behind that it does", found(1, "h"), i);
    due("the former h went", x.look(h, 0), 0);
    h = i;
    moved(1, "h", e, "g");
    due("in another directory", found(e, "g"), h);
    due("the empty one went", x.look(g, 0), 0);
    due("names of the root", x.look(1, 1), 2);
    due("in use", x.count(0), 3 + 1 + 3 + 1 + 1);
    due("faults", x.faults(), 0);
  }

  private void renameSameId() {
    begin("10: When both names are there and have the same id (behind IllegalArgumentException, ahead of all other refusals but for room) nothing is changed, but what it needs counts");
    int f = file(1, "f");
    int d = directory(1, "d");
    file(d, "x");
    linked(f, d, "f");
    int fresh = x.count(2);
    moved(1, "f", 1, "f");
    due("one name", x.count(2), fresh + 8);
    moved(1, "f", d, "f");
    due("two names", x.count(2), fresh + 16);
    due("both are there", found(1, "f"), f);
    due("both are there", found(d, "f"), f);
    due("links", x.look(f, 2), 2);
    moved(1, "d", 1, "d");
    due("a directory with names onto itself", x.count(2), fresh + 24);
    argument("behind IllegalArgumentException", () -> moved(1, "f", 9, "f"));
    argument("behind IllegalArgumentException", () -> x.rename(1, fed("f"), 1, 0));
    for (int i = 0; i < 46; i++) {
      linked(f, d, "l" + (char) (50 + i));
    }
    due("48 names", x.look(d, 1), 48);
    fresh = x.count(2);
    moved(1, "f", d, "f");
    due("in a full directory", x.count(2), fresh + 8);
    state("both names are not there", () -> moved(1, "z", 1, "z"));
    due("FRESH", x.count(2), fresh + 8);
  }

  private void renameAndFullDirectories() {
    begin("10: the other directory is another one that has 48, and the name is not there");
    int f = file(1, "f");
    int d = directory(1, "d");
    for (int i = 0; i < 47; i++) {
      linked(f, d, "l" + (char) (50 + i));
    }
    int g = file(1, "g");
    moved(1, "g", d, "g");
    due("47: goes", found(d, "g"), g);
    state("48: does not", () -> moved(1, "f", d, "f"));
    state("nor a directory", () -> moved(1, "d", d, "f"));
    moved(d, "g", d, "h");
    due("the same one: goes", found(d, "h"), g);
    moved(d, "l2", 1, "l2");
    due("out of it: goes", x.look(d, 1), 47);
    moved(1, "l2", d, "m2");
    due("then there is a place", found(d, "m2"), f);
    moved(1, "f", d, "h");
    due("48, and the name is there: goes", found(d, "h"), f);
    due("the other is gone", x.look(g, 0), 0);
    due("names", x.look(d, 1), 48);
    due("links", x.look(f, 2), 48);
    due("faults", x.faults(), 0);
  }

  private void renameIntoItself() {
    begin("10: a directory would come into itself or one within it");
    int a = directory(1, "a");
    int b = directory(a, "b");
    int c = directory(b, "c");
    int o = directory(1, "o");
    state("itself", () -> moved(1, "a", a, "z"));
    state("within it", () -> moved(1, "a", b, "z"));
    state("deep within it", () -> moved(1, "a", c, "z"));
    state("deep within it, onto an empty one", () -> moved(1, "a", b, "c"));
    state("itself, lower down", () -> moved(b, "c", c, "z"));
    moved(b, "c", 1, "c");
    moved(1, "a", c, "a");
    due("c is above now", found(c, "a"), a);
    state("so it cannot come into b", () -> moved(1, "c", b, "c"));
    moved(1, "c", o, "c");
    x.sync();
    failAndMount();
    state("behind mount", () -> moved(1, "o", b, "o"));
    moved(a, "b", 1, "b");
    moved(1, "o", b, "o");
    due("b is above now", found(b, "o"), o);
    int f = file(1, "f");
    moved(1, "f", a, "f");
    due("a file comes anywhere", found(a, "f"), f);
    due("faults", x.faults(), 0);
  }

  private void findLengths() {
    begin("11: The id of the tape's first n bytes in a directory; -1 when it is not there");
    due("in an empty one", found(1, "a"), -1);
    int a = file(1, "a");
    int ab = directory(1, "ab");
    int twenty = file(1, filled(20, 'a'));
    due("one byte", found(1, "a"), a);
    due("two", found(1, "ab"), ab);
    due("twenty", found(1, filled(20, 'a')), twenty);
    due("nineteen", found(1, filled(19, 'a')), -1);
    fed("abc");
    due("the first n of more", x.find(1, 1), a);
    due("in the empty one", found(ab, "a"), -1);
    due("needs nothing", x.count(2), 12);
  }

  private void writeNumbers() {
    begin("12: Writes the tape's first n (1 .. 2,000) bytes into a file from a place on: its size");
    int f = file(1, "f");
    due("1", put(f, 0, "a"), 1);
    fed("bcd");
    due("the first of more", x.write(f, 1, 1), 2);
    due("2,000", put(f, 0, filled(2000, 'c')), 2000);
    text("the last", bytes(f, 1999, 2), "c");
    on(filled(1999, 'd'));
    due("all of 1,999", x.write(f, 10, 1999), 2009);
    on("x");
    argument("the tape has one less", () -> x.write(f, 0, 2));
    on(filled(2001, 'e'));
    argument("2,001", () -> x.write(f, 0, 2001));
    due("size", x.look(f, 1), 2009);
    text("bytes", bytes(f, 8, 4), "ccdd");
  }

  private void writePlaces() {
    begin("12: the place is below 0, or place and n are above 100,000 together (as true numbers)");
    int f = file(1, "f");
    argument("-1", () -> put(f, -1, "ab"));
    argument("-1, up to 100,000 and more", () -> put(f, -1, "a"));
    due("0", put(f, 0, "ab"), 2);
    due("within: the size stays", put(f, 0, "c"), 2);
    due("the last place", put(f, LONGEST - 1, "z"), LONGEST);
    due("two up to the end", put(f, LONGEST - 2, "yz"), LONGEST);
    int[] far = {LONGEST - 1, LONGEST, LONGEST + 1, MAX - 2, MAX - 1, MAX};
    for (int at : far) {
      argument("two bytes at " + at, () -> put(f, at, "ab"));
    }
    argument("2,000 bytes, their sum below 0 as an int", () -> put(f, MAX - 1000, filled(2000, 'x')));
    due("size", x.look(f, 1), LONGEST);
    text("bytes", bytes(f, LONGEST - 3, 5), "\0yz");
    text("bytes", bytes(f, 0, 3), "cb\0");
    due("blocks 0 and 390", x.look(f, 3), 1 + 2 + 8);
  }

  private void readNumbers() {
    begin("13: Reads up to n (1 .. 2,000) bytes of a file from a place on: how many there are");
    int f = file(1, "f");
    due("of an empty file", x.read(f, 0, 2000), 0);
    put(f, 0, "abc");
    due("1", x.read(f, 0, 1), 1);
    text("of them", bytes(f, 0, 1), "a");
    due("3", x.read(f, 0, 3), 3);
    due("more than there are", x.read(f, 0, 4), 3);
    due("2,000", x.read(f, 0, 2000), 3);
    x.truncate(f, 1999);
    due("1,999", x.read(f, 0, 2000), 1999);
    x.truncate(f, 2000);
    due("all 2,000", x.read(f, 0, 2000), 2000);
    due("the last of them", x.byteAt(1999), 0);
    due("no more", x.byteAt(2000), -1);
    x.truncate(f, 2001);
    due("2,000 of 2,001", x.read(f, 0, 2000), 2000);
    argument("2,001", () -> x.read(f, 0, 2001));
    argument("0", () -> x.read(f, 0, 0));
    due("told is what was told", x.byteAt(1999), 0);
  }

  private void readPlaces() {
    begin("13: (0 behind its end)");
    int f = file(1, "f");
    put(f, 0, "abcde");
    due("the last", x.read(f, 4, 9), 1);
    due("is", x.byteAt(0), 'e');
    for (int at : new int[] {5, 6, 100, LONGEST, LONGEST + 1, MAX - 2000, MAX - 1, MAX}) {
      due("at " + at, x.read(f, at, 2000), 0);
      due("nothing is told", x.byteAt(0), -1);
    }
    put(f, LONGEST - 3, "xyz");
    due("up to the longest file's end", x.read(f, LONGEST - 3, 2000), 3);
    due("its last", x.byteAt(2), 'z');
    due("at its end", x.read(f, LONGEST, 1), 0);
    due("far behind", x.read(f, MAX, 2000), 0);
    put(f, 250, "0123456789abcdef");
    text("over the edge of a block", bytes(f, 254, 4), "4567");
    put(f, 256 * 20 - 2, "0123");
    text("over the edge of the inode", bytes(f, 256 * 20 - 2, 4), "0123");
    put(f, 256 * 132 - 2, "4567");
    text("over the edge of the direct nodes", bytes(f, 256 * 132 - 2, 4), "4567");
  }

  private void byteAtRange() {
    begin("14: Byte i (a number from 0 to 255) of what the latest read() or name() (...) told (...); -1 behind it");
    int f = file(1, "\u00ff\u0080\u007f\1");
    put(f, 0, "\0\1\u007f\u0080\u00ff");
    due("read", x.read(f, 0, 9), 5);
    int[] want = {0, 1, 127, 128, 255, -1, -1};
    for (int i = 0; i < want.length; i++) {
      due("byte " + i, x.byteAt(i), want[i]);
    }
    due("far behind", x.byteAt(1999), -1);
    due("far behind", x.byteAt(2000), -1);
    due("far behind", x.byteAt(MAX), -1);
    argument("below 0", () -> x.byteAt(-1));
    argument("far below 0", () -> x.byteAt(MIN));
    due("name", x.name(1, 0), 4);
    int[] name = {255, 128, 127, 1, -1};
    for (int i = 0; i < name.length; i++) {
      due("byte " + i + " of the name", x.byteAt(i), name[i]);
    }
  }

  private void byteAtOfNothing() {
    begin("14: the latest read() or name() that did not throw told (nothing, when it answered 0 or -1)");
    due("nothing yet", x.byteAt(0), -1);
    int f = file(1, "f");
    put(f, 0, "abc");
    x.read(f, 0, 3);
    argument("read", () -> x.read(f, -1, 3));
    argument("read", () -> x.read(f, 0, 2001));
    argument("read", () -> x.read(1, 0, 3));
    argument("name", () -> x.name(f, 0));
    argument("name", () -> x.name(1, -1));
    text("what throws tells nothing", told(3), "abc");
    found(1, "f");
    put(f, 0, "xyz");
    x.truncate(f, 0);
    text("what is told stays as it was", told(3), "abc");
    due("read answers 0", x.read(f, 0, 3), 0);
    text("nothing", told(0), "");
    x.name(1, 0);
    text("a name", told(1), "f");
    due("name answers -1", x.name(1, 1), -1);
    text("nothing", told(0), "");
    x.name(1, 0);
    x.power();
    state("read without power", () -> x.read(f, 0, 3));
    state("name without power", () -> x.name(1, 1));
    text("what throws tells nothing", told(1), "f");
  }

  private void truncateSizes() {
    begin("15: A file becomes shorter, or longer by zeros. IllegalArgumentException: (...) size (0 .. 100,000)");
    int f = file(1, "f");
    put(f, 0, "abc");
    argument("-1", () -> x.truncate(f, -1));
    argument("100,001", () -> x.truncate(f, LONGEST + 1));
    argument("the last int", () -> x.truncate(f, MAX));
    argument("the first int", () -> x.truncate(f, MIN));
    text("as it was", bytes(f, 0, 9), "abc");
    x.truncate(f, 4);
    text("one longer", bytes(f, 0, 9), "abc\0");
    x.truncate(f, 4);
    text("as long", bytes(f, 0, 9), "abc\0");
    x.truncate(f, 2);
    text("shorter", bytes(f, 0, 9), "ab");
    x.truncate(f, LONGEST);
    due("the longest", x.look(f, 1), LONGEST);
    text("its first bytes", bytes(f, 0, 4), "ab\0\0");
    due("its last byte", x.read(f, LONGEST - 1, 9), 1);
    due("is 0", x.byteAt(0), 0);
    x.truncate(f, LONGEST - 1);
    due("one shorter", x.look(f, 1), LONGEST - 1);
    x.truncate(f, 1);
    text("one byte", bytes(f, 0, 9), "a");
    x.truncate(f, 0);
    due("none", x.read(f, 0, 9), 0);
    due("needs 6 each", x.count(2), 4 + 7 + 7 * 6);
    due("faults", x.faults(), 0);
  }

  private void fsyncAnswers() {
    begin("16: 0 by the file alone, 1 by a checkpoint");
    int f = file(1, "f");
    due("new", x.fsync(f), 1);
    due("checkpoints", x.count(3), 2);
    due("there", x.fsync(f), 0);
    due("checkpoints", x.count(3), 2);
    put(f, 256 * 390, "x");
    due("written", x.fsync(f), 0);
    x.truncate(f, 0);
    due("cut", x.fsync(f), 0);
    x.power();
    due("brought forward", x.mount(), 1);
    due("behind mount", x.fsync(f), 0);
    x.format(48, 24);
    argument("gone by format", () -> x.fsync(f));
  }

  private void syncCounts() {
    begin("17: A checkpoint: how many were taken since format (format's own, mount's and those by needs count, cut ones do not)");
    due("format's own", x.sync(), 2);
    due("nothing is new", x.sync(), 3);
    failAndMount();
    due("mount's", x.sync(), 5);
    int f = file(1, "f");
    due("fsync's", x.fsync(f) + x.sync(), 1 + 7);
    fillRoom(384, f, 0, f);
    x.truncate(f, 0);
    due("by needs", x.sync(), 9);
    due("by the file alone: none", x.fsync(f) + x.sync(), 10);
    x.cut(33);
    unsupported("cut", () -> x.sync());
    x.mount();
    due("cut ones do not", x.sync(), 12);
    fillRoom(384, f, 0, f);
    x.cut(0);
    unsupported("cut by need", () -> x.truncate(f, 0));
    x.mount();
    due("cut ones do not", x.sync(), 14);
    due("count", x.count(3), 14);
    argument("format that throws", () -> x.format(0, 0));
    due("none by it", x.sync(), 15);
    x.format(48, 24);
    due("since format", x.sync(), 2);
  }

  private void nameOrder() {
    begin("18: Name k of a directory, by bytes rising, as 0 to 255 (a beginning of another one first): its length");
    String[] sorted = {"\1", "\1\1", "\1\u00ff", "a", "aa", "aaaa", "aaaaa", filled(20, 'a'), filled(19, 'a') + "b",
        "ab", "b", "\u007f", "\u007f\u00ff", "\u0080", "\u0080\1", "\u00ff", "\u00ff\u007f", filled(20, '\u00ff')};
    for (int i = 0; i < sorted.length; i++) {
      int at = i * 7 % sorted.length;
      if (i % 2 == 0) {
        file(1, sorted[at]);
      } else {
        directory(1, sorted[at]);
      }
    }
    for (int k = 0; k < sorted.length; k++) {
      due("length " + k, x.name(1, k), sorted[k].length());
      text("name " + k, told(sorted[k].length()), sorted[k]);
    }
    due("no more", x.name(1, sorted.length), -1);
    unlinked(1, "\1");
    text("one less", told(x.name(1, 0)), "\1\1");
    due("no more", x.name(1, sorted.length - 1), -1);
  }

  private void nameNumbers() {
    begin("18: -1 when there are not so many. IllegalArgumentException: (...) k is below 0");
    due("an empty directory", x.name(1, 0), -1);
    int f = file(1, "f");
    int d = directory(1, "d");
    for (int i = 0; i < 48; i++) {
      linked(f, d, "n" + (char) (100 + (i * 31) % 48));
    }
    for (int k = 0; k < 48; k++) {
      due("name " + k, x.name(d, k), 2);
      due("byte", x.byteAt(1), 100 + k);
    }
    due("48", x.name(d, 48), -1);
    due("nothing is told", x.byteAt(0), -1);
    due("the last int", x.name(d, MAX), -1);
    argument("-1", () -> x.name(d, -1));
    argument("the first int", () -> x.name(d, MIN));
    due("one", x.name(1, 1), 1);
    due("two", x.name(1, 2), -1);
  }

  private void lookNumbers() {
    begin("19: 0 of none (also of a number that can be no id). IllegalArgumentException: no such what (ahead)");
    int f = file(1, "f");
    put(f, 256 * 390, "x");
    int[] none = {0, -1, 3, 249, 250, 251, 252, 255, 256, 257, 2047, 2048, 65537, MAX, MIN, MIN + 1, MIN + 2};
    for (int id : none) {
      for (int what = 0; what <= 4; what++) {
        due("look(" + id + ", " + what + ")", x.look(id, what), 0);
      }
      argument("no such what", () -> x.look(id, 5));
      argument("no such what", () -> x.look(id, -1));
    }
    for (int what : new int[] {-1, 5, MAX, MIN}) {
      argument("no such what of a file", () -> x.look(f, what));
    }
    int[][] want = {{2, 1, 1, 2, 0}, {1, 256 * 390 + 1, 1, 1 + 2 + 8, 0}};
    for (int id = 1; id <= 2; id++) {
      for (int what = 0; what <= 4; what++) {
        due("look(" + id + ", " + what + ")", x.look(id, what), want[id - 1][what]);
      }
    }
    x.truncate(f, 0);
    due("small", x.look(f, 4), 1);
    due("a directory is not small", x.look(1, 4), 0);
  }

  private void countNumbers() {
    begin("20: IllegalArgumentException: no such what");
    for (int what : new int[] {-1, 6, 7, MAX, MIN}) {
      argument("count(" + what + ")", () -> x.count(what));
    }
    int[] first = {1, 1, 0, 1, 0, 1};
    for (int what = 0; what <= 5; what++) {
      due("count(" + what + ")", x.count(what), first[what]);
    }
    int d = directory(1, "d");
    put(file(d, "f"), 300, "x");
    int[] then = {2 + 2 + 3, 1, 4 + 4 + 7, 1, 0, 3};
    for (int what = 0; what <= 5; what++) {
      due("count(" + what + ")", x.count(what), then[what]);
    }
    x.sync();
    x.truncate(3, 0);
    int[] last = {2 + 2 + 1, 7, 6, 2, 0, 3};
    for (int what = 0; what <= 5; what++) {
      due("count(" + what + ")", x.count(what), last[what]);
    }
  }

  private void countOfMount() {
    begin("20: 4 files that the latest mount() since format brought forward (0 ahead of it)");
    due("ahead of it", x.count(4), 0);
    int f = file(1, "f");
    int g = file(1, "g");
    x.sync();
    x.fsync(f);
    x.fsync(g);
    due("not yet", x.count(4), 0);
    x.power();
    due("mount", x.mount(), 2);
    due("count", x.count(4), 2);
    x.sync();
    x.fsync(f);
    due("it stays", x.count(4), 2);
    x.power();
    due("mount", x.mount(), 1);
    due("the latest", x.count(4), 1);
    failAndMount();
    due("the latest", x.count(4), 0);
    x.fsync(f);
    failAndMount();
    due("one", x.count(4), 1);
    argument("a format that throws", () -> x.format(1, 1));
    due("it stays", x.count(4), 1);
    x.format(48, 24);
    due("since format", x.count(4), 0);
  }

  private void powerOff() {
    begin("21: The power fails (a cut that waits is forgotten)");
    int f = file(1, "f");
    x.sync();
    x.cut(0);
    x.power();
    withoutPower();
    state("twice", () -> x.power());
    due("mount", x.mount(), 0);
    due("the cut is forgotten", x.sync(), 4);
    due("there", x.look(f, 0), 1);
  }

  private void cutBelow0() {
    begin("22: The next commit is cut behind so many blocks at most; below 0: none is");
    for (int blocks : new int[] {-1, -2, MIN, MIN + 1}) {
      x.cut(blocks);
      goes("none is", () -> x.sync());
    }
    due("checkpoints", x.count(3), 5);
    for (int blocks : new int[] {0, 1, 33, 34, 68, MAX}) {
      x.cut(blocks);
      unsupported("cut", () -> x.sync());
      x.mount();
      goes("only the next", () -> x.sync());
    }
    due("checkpoints", x.count(3), 5 + 12);
    due("faults", x.faults(), 0);
  }

  private void mountOnlyWithoutPower() {
    begin("23: IllegalStateException: there is no device, or it is mounted");
    state("behind format", () -> x.mount());
    x.power();
    due("goes", x.mount(), 0);
    state("behind mount", () -> x.mount());
    x.cut(0);
    unsupported("cut", () -> x.sync());
    due("goes behind a cut", x.mount(), 0);
    x.power();
    x.format(48, 24);
    state("behind format without power", () -> x.mount());
    for (int i = 0; i < 50; i++) {
      x.power();
      due("again and again", x.mount(), 0);
    }
    due("checkpoints", x.count(3), 51);
    due("faults", x.faults(), 0);
  }

  private void cleanChangesNothing() {
    begin("24: Cleans segments now, as it likes (nothing that is told here changes)");
    goes("on a new device", () -> x.clean());
    int d = directory(1, "d");
    int f = file(d, "f");
    for (int i = 0; i < 30; i++) {
      put(f, 256 * 12 * i, "i" + i);
    }
    x.sync();
    put(f, 0, "alone");
    x.fsync(f);
    put(f, 0, "later");
    file(d, "g");
    x.name(1, 0);
    on("tape");
    String before = all();
    x.clean();
    x.clean();
    text("all that is told", all(), before);
    due("faults", x.faults(), 0);
    x.power();
    due("brought forward", x.mount(), 1);
    text("what comes back", bytes(f, 0, 5), "alone");
    text("what comes back", bytes(f, 256 * 12 * 29, 3), "i29");
    due("names", x.look(d, 1), 1);
    due("faults", x.faults(), 0);
  }

  private void noFaults() {
    begin("25: How many things on the device and in memory contradict one another (...): none");
    due("a new device", x.faults(), 0);
    int f = file(1, "f");
    int[] places = {0, 95, 96, 255, 256, 5119, 5120, 19455, 19456, 33791, 33792, 48127, 48128, LONGEST - 1};
    for (int at : places) {
      put(f, at, "x");
      due("behind write at " + at, x.faults(), 0);
    }
    for (int i = places.length - 1; i >= 0; i--) {
      x.truncate(f, places[i]);
      due("behind truncate to " + places[i], x.faults(), 0);
    }
    file(1, "g");
    x.sync();
    fillRoom(384, f, 0, f);
    due("no room left", x.faults(), 0);
    x.truncate(f, LONGEST);
    due("behind a checkpoint by need", x.faults(), 0);
    x.fsync(f);
    due("behind fsync", x.faults(), 0);
    x.cut(5);
    unsupported("cut", () -> x.sync());
    x.mount();
    due("behind a cut and mount", x.faults(), 0);
    moved(1, "f", 1, "g");
    due("behind rename", x.faults(), 0);
    unlinked(1, "g");
    due("behind unlink", x.faults(), 0);
    failAndMount();
    due("behind mount", x.faults(), 0);
    x.clean();
    due("behind clean", x.faults(), 0);
    x.format(128, 64);
    due("behind format", x.faults(), 0);
  }
}
