/** Each promise of the document by itself: ordinary inputs, the edges it names, and wrong inputs. */
public final class PromisesTest extends Trial {
  public static void main(String[] args) {
    PromisesTest t = new PromisesTest();
    t.newObject();
    t.format();
    t.feed();
    t.tape();
    t.make();
    t.idsOfMake();
    t.allIds();
    t.allIdsAtTheLatestCheckpoint();
    t.lastId();
    t.makeDirectory();
    t.link();
    t.unlink();
    t.removeDirectory();
    t.rename();
    t.renameOver();
    t.find();
    t.tapeIsUsedUp();
    t.write();
    t.writeAndBlocks();
    t.writeAllOver();
    t.read();
    t.byteAt();
    t.truncate();
    t.truncateAndBlocks();
    t.fsync();
    t.fsyncAndNames();
    t.sync();
    t.needsAndCheckpoints();
    t.refusals();
    t.name();
    t.look();
    t.count();
    t.power();
    t.cut();
    t.cutByNeed();
    t.mount();
    t.mountBringsForward();
    t.clean();
    t.end();
  }

  private void begin(int promise) {
    begin("promise " + promise);
  }

  private void newObject() {
    beginWithoutDevice("promise 1");
    withoutPower();
    state("mount without a device", () -> x.mount());
    due("tape", x.tape(0), 0);
    due("feed", x.feed(1, 2, 3, 4, 5), 20);
    withoutPower();
    due("tape without power", x.tape(0), 20);
    due("byteAt", x.byteAt(0), -1);
    argument("byteAt", () -> x.byteAt(-1));
  }

  private void format() {
    begin(2);
    int[][] none = {{47, 24}, {129, 24}, {48, 23}, {48, 25}, {128, 65}, {50, 26}, {51, 26}, {-48, 24},
        {Integer.MIN_VALUE, 24}, {128, Integer.MIN_VALUE}, {Integer.MAX_VALUE, Integer.MAX_VALUE}};
    int kept = file(1, "a");
    for (int[] n : none) {
      argument("format(" + n[0] + ", " + n[1] + ")", () -> x.format(n[0], n[1]));
    }
    due("all stays", found(1, "a"), kept);
    int[][] some = {{48, 24}, {128, 24}, {128, 64}, {51, 25}};
    for (int[] n : some) {
      x.format(n[0], n[1]);
      due("blocks", x.count(0), 1);
      due("USED", x.count(1), 1);
      due("FRESH", x.count(2), 0);
      due("checkpoints", x.count(3), 1);
      due("brought forward", x.count(4), 0);
      due("ids", x.count(5), 1);
      due("the root", x.look(1, 0), 2);
      due("a file of the former device", found(1, "a"), -1);
      file(1, "a");
    }
    x.cut(0);
    x.format(48, 24);
    due("a cut is forgotten", x.sync(), 2);
    x.power();
    on("abc");
    x.format(48, 24);
    due("mounted", x.sync(), 2);
    due("the tape stays", x.tape(0), 3);
    int f = file(1, "a");
    x.sync();
    x.fsync(f);
    x.power();
    due("brought forward", x.mount(), 1);
    x.format(48, 24);
    due("brought forward since format", x.count(4), 0);
  }

  private void feed() {
    begin(3);
    due("feed", x.feed(0x61626364, 0xFF808101, 0x65666768, 0x696A6B6C, 0x6D6E6F70), 20);
    int f = x.make(1, 4);
    due("the name of the first int", found(1, "abcd"), f);
    x.feed(0x01020304, 0xFF808101, 5, 6, 0x7F000000);
    x.write(f, 0, 20);
    text("bytes", bytes(f, 0, 20), "\1\2\3\4\u00ff\u0080\u0081\1\0\0\0\5\0\0\0\6\u007f\0\0\0");
    for (int i = 1; i <= 103; i++) {
      due("feed", x.feed(0, 0, 0, 0, 0), 20 * i);
    }
    state("feed above 2,060", () -> x.feed(1, 1, 1, 1, 1));
    due("none of them comes", x.tape(0), 2060);
    x.tape(2041);
    state("feed above 2,060", () -> x.feed(1, 1, 1, 1, 1));
    x.tape(2040);
    due("feed up to 2,060", x.feed(1, 1, 1, 1, 1), 2060);
  }

  private void tape() {
    begin(4);
    due("empty", x.tape(5), 0);
    x.feed(0x61626364, 0, 0, 0, 0);
    due("0 changes nothing", x.tape(0), 20);
    due("below 0", x.tape(Integer.MIN_VALUE), 20);
    due("as many", x.tape(20), 20);
    due("more", x.tape(21), 20);
    due("fewer", x.tape(2), 2);
    due("feed behind them", x.feed(0x63000000, 0, 0, 0, 0), 22);
    int f = x.make(1, 3);
    due("the first bytes stay", found(1, "abc"), f);
    on("xyz");
    x.power();
    due("without power", x.tape(2), 2);
    x.mount();
    due("at mount", x.tape(0), 2);
  }

  private void make() {
    begin(5);
    due("first id", file(1, "a"), 2);
    due("next id", file(1, filled(20, 'n')), 3);
    due("a name of other bytes", file(1, "\1\u00ff."), 4);
    due("FRESH", x.count(2), 12);
    due("size", x.look(2, 1), 0);
    due("small", x.look(2, 4), 1);
    due("links", x.look(2, 2), 1);
    argument("no such directory", () -> x.make(9, on("b")));
    argument("a file's id", () -> x.make(2, on("b")));
    argument("id 0", () -> x.make(0, on("b")));
    argument("id below 0", () -> x.make(-1, on("b")));
    argument("id above 250", () -> x.make(251, on("b")));
    argument("tape too short", () -> { on("b"); x.make(1, 2); });
    argument("n 0", () -> { on("b"); x.make(1, 0); });
    argument("n below 0", () -> { on("b"); x.make(1, Integer.MIN_VALUE); });
    argument("n 21", () -> x.make(1, on(filled(21, 'b'))));
    argument("a byte 0", () -> x.make(1, on("a\0b")));
    argument("a byte 47", () -> x.make(1, on("a/b")));
    state("the name is there", () -> x.make(1, on("a")));
    due("FRESH of what threw", x.count(2), 12);
    int d = directory(1, "d");
    for (int i = 0; i < 48; i++) {
      file(d, "f" + (char) (i + 48));
    }
    state("48 names", () -> x.make(d, on("g")));
    due("names", x.look(d, 1), 48);
    due("another directory", x.look(file(1, "g"), 0), 1);
    due("faults", x.faults(), 0);
  }

  private void idsOfMake() {
    begin(5);
    file(1, "a");
    file(1, "b");
    x.sync();
    x.unlink(1, on("a"));
    due("an id of the latest checkpoint waits", file(1, "c"), 4);
    x.unlink(1, on("c"));
    due("an id that came and went since is the lowest", file(1, "d"), 4);
    x.sync();
    due("behind a checkpoint", file(1, "e"), 2);
  }

  /** Two calls for each id, as an object has 512 calls. */
  private int quick(int directory, boolean file, int word) {
    x.feed(word, 0, 0, 0, 0);
    return file ? x.make(directory, 2) : x.makeDirectory(directory, 2);
  }

  private void makeAllIds(int promise) {
    beginWithoutDevice("promise " + promise);
    x.format(128, 24);
    int made = 1;
    for (int d = 0; made < 250; d++) {
      int dir = quick(1, false, 0x64410000 + (d << 16));
      made++;
      for (int i = 0; i < 48 && made < 250; i++) {
        due("id", quick(dir, true, 0x66300000 + (i << 16)), ++made);
      }
    }
    due("ids", x.count(5), 250);
  }

  /** The last id is as good as the others. */
  private void lastId() {
    makeAllIds(19);
    due("look", x.look(250, 0), 1);
    due("blocks", x.count(0), 250 + 249);
    due("fsync", x.fsync(250), 1);
    x.truncate(250, 97);
    due("fsync", x.fsync(250), 0);
    x.power();
    due("brought forward", x.mount(), 1);
    due("size", x.look(250, 1), 97);
    due("USED", x.count(1), 250 + 249 + 1);
    due("faults", x.faults(), 0);
  }

  private void allIds() {
    makeAllIds(5);
    state("250 ids", () -> quick(1, true, 0x7A7A0000));
    x.feed(0x66350000, 0, 0, 0, 0);
    x.unlink(2, 2);
    x.sync();
    due("the id is free behind a checkpoint", quick(1, true, 0x7A7A0000), 8);
    due("checkpoints were only those asked for", x.count(3), 2);
    due("faults", x.faults(), 0);
  }

  private void allIdsAtTheLatestCheckpoint() {
    makeAllIds(5);
    x.sync();
    x.feed(0x66350000, 0, 0, 0, 0);
    x.unlink(2, 2);
    state("in use at the latest checkpoint", () -> quick(1, false, 0x7A7B0000));
    due("checkpoints were only those asked for", x.count(3), 2);
  }

  private void makeDirectory() {
    begin(6);
    int d = directory(1, "d");
    due("id", d, 2);
    due("kind", x.look(d, 0), 2);
    due("names", x.look(d, 1), 0);
    due("blocks", x.count(0), 3);
    due("FRESH", x.count(2), 4);
    int e = directory(d, "d");
    due("within", found(d, "d"), e);
    argument("no such directory", () -> x.makeDirectory(77, on("d")));
    argument("no name", () -> x.makeDirectory(1, on("/")));
    argument("tape too short", () -> x.makeDirectory(1, 1));
    state("the name is there", () -> x.makeDirectory(1, on("d")));
    for (int i = 0; i < 47; i++) {
      directory(d, "e" + (char) (i + 48));
    }
    state("48 names", () -> x.makeDirectory(d, on("f")));
    x.sync();
    failAndMount();
    due("names behind mount", x.look(d, 1), 48);
    due("faults", x.faults(), 0);
  }

  private void link() {
    begin(7);
    int f = file(1, "a");
    int d = directory(1, "d");
    due("links", x.link(f, d, on("a")), 2);
    due("links", x.link(f, 1, on("b")), 3);
    due("look", x.look(f, 2), 3);
    due("find", found(d, "a"), f);
    due("FRESH", x.count(2), 16);
    due("blocks", x.count(0), 4 + 2 + 1);
    argument("no such file", () -> x.link(9, 1, on("c")));
    argument("a directory is no file", () -> x.link(d, 1, on("c")));
    argument("no such directory", () -> x.link(f, 9, on("c")));
    argument("a file is no directory", () -> x.link(f, f, on("c")));
    argument("no name", () -> x.link(f, 1, on("\0")));
    argument("tape too short", () -> { on("c"); x.link(f, 1, 2); });
    argument("no such file, and the name is there", () -> x.link(9, 1, on("a")));
    state("the name is there", () -> x.link(f, 1, on("a")));
    for (int i = 0; i < 47; i++) {
      x.link(f, d, on("l" + (char) (i + 48)));
    }
    state("48 names", () -> x.link(f, d, on("m")));
    due("many links", x.look(f, 2), 50);
    due("faults", x.faults(), 0);
  }

  private void unlink() {
    begin(8);
    int f = file(1, "a");
    x.link(f, 1, on("b"));
    int d = directory(1, "d");
    put(f, 5000, "x");
    due("one less", x.unlink(1, on("a")), 1);
    due("still there", x.look(f, 0), 1);
    argument("no such directory", () -> x.unlink(9, on("b")));
    argument("a file is no directory", () -> x.unlink(f, on("b")));
    argument("tape too short", () -> { on("b"); x.unlink(1, 2); });
    argument("no name", () -> x.unlink(1, on("b/")));
    state("not there", () -> x.unlink(1, on("a")));
    state("a directory's", () -> x.unlink(1, on("d")));
    int fresh = x.count(2);
    due("the last one", x.unlink(1, on("b")), 0);
    due("FRESH", x.count(2), fresh + 4);
    due("gone at once", x.look(f, 0), 0);
    due("blocks", x.count(0), 3);
    argument("gone", () -> x.read(f, 0, 1));
    due("the directory stays", found(1, "d"), d);
    due("faults", x.faults(), 0);
  }

  private void removeDirectory() {
    begin(9);
    int d = directory(1, "d");
    int e = directory(d, "e");
    int f = file(1, "f");
    argument("no such directory", () -> x.removeDirectory(9, on("d")));
    argument("tape too short", () -> { on("d"); x.removeDirectory(1, 2); });
    argument("no name", () -> x.removeDirectory(1, on("/")));
    state("not there", () -> x.removeDirectory(1, on("e")));
    state("a file's", () -> x.removeDirectory(1, on("f")));
    state("it has names", () -> x.removeDirectory(1, on("d")));
    int fresh = x.count(2);
    x.removeDirectory(d, on("e"));
    due("FRESH", x.count(2), fresh + 4);
    due("gone", x.look(e, 0), 0);
    x.removeDirectory(1, on("d"));
    due("gone", x.look(d, 0), 0);
    due("names", x.look(1, 1), 1);
    due("ids", x.count(5), 2);
    due("the file stays", found(1, "f"), f);
    due("faults", x.faults(), 0);
  }

  private void rename() {
    begin(10);
    int f = file(1, "a");
    int d = directory(1, "d");
    int e = directory(d, "e");
    moved(1, "a", 1, "b");
    due("old name", found(1, "a"), -1);
    due("new name", found(1, "b"), f);
    moved(1, "b", d, filled(20, 'q'));
    due("another directory", found(d, filled(20, 'q')), f);
    due("links", x.look(f, 2), 1);
    due("FRESH", x.count(2), 28);
    argument("no such directory", () -> moved(9, "d", 1, "x"));
    argument("no such other", () -> moved(1, "d", 9, "x"));
    argument("a file is no directory", () -> moved(1, "d", f, "x"));
    argument("tape too short", () -> { on("dx"); x.rename(1, 1, 1, 2); });
    argument("n + m as true numbers", () -> { on("dx"); x.rename(1, 1, 1, Integer.MAX_VALUE); });
    argument("m 0", () -> { on("dx"); x.rename(1, 1, 1, 0); });
    argument("no first name", () -> moved(1, "\0", 1, "x"));
    argument("no second name", () -> moved(1, "d", 1, "a/"));
    argument("n 21", () -> moved(1, filled(21, 'd'), 1, "a"));
    state("not there", () -> moved(1, "x", 1, "y"));
    state("neither is there", () -> moved(1, "x", 1, "x"));
    state("into itself", () -> moved(1, "d", d, "x"));
    state("into one within it", () -> moved(1, "d", e, "x"));
    int fresh = x.count(2);
    moved(1, "d", 1, "d");
    due("nothing is changed, but it counts", x.count(2), fresh + 8);
    moved(d, "e", 1, "e");
    moved(1, "d", e, "d");
    due("a directory moves with all that is in it", found(d, filled(20, 'q')), f);
    due("faults", x.faults(), 0);
    x.sync();
    failAndMount();
    due("behind mount", found(e, "d"), d);
    state("into one within it, behind mount", () -> moved(1, "e", d, "x"));
  }

  private void renameOver() {
    begin(10);
    int a = file(1, "a");
    int b = file(1, "b");
    int d = directory(1, "d");
    int e = directory(1, "e");
    x.link(a, d, on("a"));
    moved(1, "a", d, "a");
    due("both names of one file stay", x.look(a, 2), 2);
    due("the first one", found(1, "a"), a);
    state("a file's over a directory's", () -> moved(1, "a", 1, "d"));
    state("a directory's over a file's", () -> moved(1, "e", 1, "a"));
    state("over a directory with names", () -> moved(1, "e", 1, "d"));
    moved(1, "b", d, "a");
    due("the other loses a link", x.look(a, 2), 1);
    due("the name is the first one's", found(d, "a"), b);
    moved(d, "a", 1, "a");
    due("without links it is gone", x.look(a, 0), 0);
    moved(1, "e", 1, "d");
    due("an empty directory's for a directory's", found(1, "d"), e);
    due("it is gone", x.look(d, 0), 0);
    for (int i = 0; i < 48; i++) {
      x.link(b, e, on("n" + (char) (i + 48)));
    }
    int c = file(1, "c");
    state("48 in another one", () -> moved(1, "c", e, "c"));
    moved(e, "n0", e, "m");
    due("48 in the same one", found(e, "m"), b);
    moved(1, "c", e, "m");
    due("48, but the name is there", found(e, "m"), c);
    due("faults", x.faults(), 0);
  }

  private void find() {
    begin(11);
    int f = file(1, "ab");
    due("there", found(1, "ab"), f);
    due("a beginning of it", found(1, "a"), -1);
    due("more than it", found(1, "abc"), -1);
    on("abc");
    due("the first n bytes", x.find(1, 2), f);
    argument("no such directory", () -> x.find(f, on("ab")));
    argument("tape too short", () -> { on("a"); x.find(1, 2); });
    argument("no name", () -> x.find(1, on("a\0")));
    argument("n 0", () -> { on("a"); x.find(1, 0); });
    argument("n 21", () -> x.find(1, on(filled(21, 'x'))));
  }

  private void tapeIsUsedUp() {
    begin(5);
    int f = file(1, "f");
    directory(1, "d");
    Call[] calls = {
      () -> x.make(1, 1), () -> x.makeDirectory(1, 1), () -> x.link(f, 1, 1), () -> x.unlink(1, 1),
      () -> x.removeDirectory(1, 1), () -> x.rename(1, 1, 1, 1), () -> x.find(1, 1), () -> x.write(f, 0, 1)
    };
    String[] fits = {"m-", "n-", "l-", "l-", "n-", "fg", "f-", "w-"};
    for (int i = 0; i < calls.length; i++) {
      on(fits[i]);
      calls[i].run();
      due("the tape behind call " + i, x.tape(0), 0);
    }
    Call[] wrongs = {
      () -> x.make(9, 1), () -> x.makeDirectory(1, 21), () -> x.link(9, 1, 1), () -> x.unlink(1, 1),
      () -> x.removeDirectory(1, 1), () -> x.rename(1, 1, 1, 9), () -> x.find(9, 1), () -> x.write(9, 0, 1)
    };
    for (int i = 0; i < wrongs.length; i++) {
      on("--");
      try {
        wrongs[i].run();
      } catch (RuntimeException e) {
        due("the tape behind a call that threw, " + i, x.tape(0), 0);
      }
    }
    on("keep");
    x.look(f, 0);
    x.truncate(f, 3);
    x.read(f, 0, 1);
    x.fsync(f);
    x.sync();
    x.name(1, 0);
    x.cut(0);
    unsupported("cut", () -> x.sync());
    due("other calls leave the tape", x.tape(0), 4);
    state("without power", () -> x.make(1, 1));
    state("without power", () -> x.write(f, 0, 1));
    due("without power the tape stays", x.tape(0), 4);
  }

  private void write() {
    begin(12);
    int f = file(1, "f");
    due("size", put(f, 0, "hello"), 5);
    due("FRESH", x.count(2), 11);
    due("within", put(f, 1, "EL"), 5);
    text("bytes", bytes(f, 0, 9), "hELlo");
    due("behind the end", put(f, 8, "x"), 9);
    text("zeros between", bytes(f, 0, 9), "hELlo\0\0\0x");
    on("abcd");
    due("the first n bytes of the tape", x.write(f, 0, 2), 9);
    text("bytes", bytes(f, 0, 3), "abL");
    argument("no such file", () -> put(9, 0, "x"));
    argument("a directory", () -> put(1, 0, "x"));
    argument("n 0", () -> { on("x"); x.write(f, 0, 0); });
    argument("n 2,001", () -> { on(filled(2060, 'x')); x.write(f, 0, 2001); });
    argument("tape too short", () -> { on("x"); x.write(f, 0, 2); });
    argument("place below 0", () -> put(f, -1, "x"));
    argument("place and n above 100,000", () -> put(f, 99999, "xy"));
    argument("place and n as true numbers", () -> put(f, Integer.MAX_VALUE, "xy"));
    due("nothing changed", x.look(f, 1), 9);
    int fresh = x.count(2);
    due("up to 100,000", put(f, 98000, filled(2000, 'z')), 100000);
    due("FRESH: it touches blocks 382 to 390", x.count(2), fresh + 9 + 6);
    due("the last byte of a block and the first", put(f, 511, "yy"), 100000);
    due("FRESH", x.count(2), fresh + 15 + 2 + 6);
    due("last byte", bytes(f, 99999, 1).charAt(0), 'z');
    due("faults", x.faults(), 0);
  }

  /** What write does to the blocks in use: the edges of small, of blocks and of nodes. */
  private void writeAndBlocks() {
    begin(12);
    int f = file(1, "f");
    put(f, 95, "a");
    due("96 bytes are small", x.look(f, 4), 1);
    due("blocks", x.look(f, 3), 1);
    put(f, 96, "b");
    due("97 bytes are not", x.look(f, 4), 0);
    due("blocks", x.look(f, 3), 2);
    text("the bytes stay", bytes(f, 94, 5), "\0ab");
    put(f, 255, "cd");
    due("two blocks", x.look(f, 3), 3);
    int[] sizes = {20, 21, 76, 77, 132, 133, 188, 189, 244, 245, 300, 301, 356, 357, 390};
    int[] nodes = {0, 1, 1, 2, 2, 4, 4, 5, 5, 6, 6, 7, 7, 8, 8};
    for (int i = 0; i < sizes.length; i++) {
      int g = file(1, "g" + (char) (65 + i));
      put(g, 256 * sizes[i] - 1, "e");
      due("blocks of one with " + sizes[i], x.look(g, 3), 1 + 2 + nodes[i]);
      x.sync();
    }
    due("faults", x.faults(), 0);
  }

  /** Bytes all over a long file, through direct and indirect nodes. */
  private void writeAllOver() {
    begin(12);
    int h = file(1, "h");
    for (int k = 0; k < 391; k += 13) {
      put(h, 256 * k + 100, "at" + (char) (k % 250 + 1));
    }
    for (int k = 0; k < 391; k += 13) {
      text("bytes of block " + k, bytes(h, 256 * k + 100, 3), "at" + (char) (k % 250 + 1));
    }
    due("faults", x.faults(), 0);
    x.sync();
    failAndMount();
    for (int k = 0; k < 391; k += 13) {
      text("bytes behind mount", bytes(h, 256 * k + 99, 4), "\0at" + (char) (k % 250 + 1));
    }
    due("faults", x.faults(), 0);
  }

  private void read() {
    begin(13);
    int f = file(1, "f");
    due("an empty file", x.read(f, 0, 1), 0);
    put(f, 0, "0123456789");
    text("some", bytes(f, 2, 3), "234");
    text("up to the end", bytes(f, 8, 2000), "89");
    due("at the end", x.read(f, 10, 1), 0);
    due("byteAt", x.byteAt(0), -1);
    due("far behind the end", x.read(f, Integer.MAX_VALUE, 2000), 0);
    argument("no such file", () -> x.read(9, 0, 1));
    argument("a directory", () -> x.read(1, 0, 1));
    argument("n 0", () -> x.read(f, 0, 0));
    argument("n 2,001", () -> x.read(f, 0, 2001));
    argument("place below 0", () -> x.read(f, -1, 1));
    x.truncate(f, 100000);
    due("2,000", x.read(f, 98000, 2000), 2000);
    due("FRESH is none of read's", x.count(2), 4 + 7 + 6);
    put(f, 250, "abcdefghijkl");
    text("across blocks", bytes(f, 248, 16), "\0\0abcdefghijkl\0\0");
  }

  private void byteAt() {
    begin(14);
    due("nothing told yet", x.byteAt(0), -1);
    int f = file(1, "\u00fe");
    put(f, 0, "\u00ff\0a");
    x.read(f, 0, 3);
    due("255", x.byteAt(0), 255);
    due("0", x.byteAt(1), 0);
    due("the last", x.byteAt(2), 97);
    due("behind", x.byteAt(3), -1);
    due("far behind", x.byteAt(Integer.MAX_VALUE), -1);
    argument("below 0", () -> x.byteAt(-1));
    argument("far below 0", () -> x.byteAt(Integer.MIN_VALUE));
    argument("a read that throws", () -> x.read(f, -1, 1));
    argument("a name that throws", () -> x.name(1, -1));
    due("tells nothing new", x.byteAt(2), 97);
    x.power();
    due("stays without power", x.byteAt(2), 97);
    x.format(48, 24);
    due("stays by format", x.byteAt(2), 97);
    file(1, "\u00fe");
    x.name(1, 0);
    due("a name's", x.byteAt(0), 254);
    due("no name", x.name(1, 1), -1);
    due("nothing", x.byteAt(0), -1);
  }

  private void truncate() {
    begin(15);
    int f = file(1, "f");
    put(f, 0, "abcdef");
    x.truncate(f, 3);
    due("FRESH", x.count(2), 4 + 7 + 6);
    due("shorter", x.look(f, 1), 3);
    x.truncate(f, 6);
    text("what was cut off is 0", bytes(f, 0, 9), "abc\0\0\0");
    x.truncate(f, 500);
    put(f, 490, "0123456789");
    x.truncate(f, 495);
    x.truncate(f, 600);
    text("also in a block", bytes(f, 488, 12), "\0\0" + "01234" + "\0\0\0\0\0");
    put(f, 30000, "far");
    x.truncate(f, 30001);
    put(f, 30004, "x");
    text("also by nodes", bytes(f, 30000, 9), "f\0\0\0x");
    x.truncate(f, 0);
    due("empty", x.read(f, 0, 1), 0);
    x.truncate(f, 30005);
    text("all zeros", bytes(f, 30000, 9), "\0\0\0\0\0");
    x.truncate(f, 100000);
    due("100,000", x.look(f, 1), 100000);
    int fresh = x.count(2);
    x.truncate(f, 100000);
    due("what changes nothing counts", x.count(2), fresh + 6);
    argument("100,001", () -> x.truncate(f, 100001));
    argument("below 0", () -> x.truncate(f, -1));
    argument("no such file", () -> x.truncate(9, 0));
    argument("a directory", () -> x.truncate(1, 0));
    due("faults", x.faults(), 0);
  }

  private void truncateAndBlocks() {
    begin(15);
    int f = file(1, "f");
    x.truncate(f, 96);
    due("96 is small", x.look(f, 4), 1);
    x.truncate(f, 97);
    due("97 is not", x.look(f, 4), 0);
    due("block 0 is there", x.look(f, 3), 2);
    x.truncate(f, 1);
    due("it stays so", x.look(f, 4), 0);
    due("block 0 stays", x.look(f, 3), 2);
    x.truncate(f, 0);
    due("made 0 long", x.look(f, 4), 1);
    due("blocks", x.look(f, 3), 1);
    x.truncate(f, 100000);
    due("nodes, and block 0", x.look(f, 3), 1 + 1 + 8);
    x.truncate(f, 300);
    put(f, 299, "x");
    due("two blocks", x.look(f, 3), 3);
    x.truncate(f, 257);
    due("begun", x.look(f, 3), 3);
    x.truncate(f, 256);
    due("wholly behind the end", x.look(f, 3), 2);
    for (int k = 0; k < 40; k++) {
      put(f, 2500 * k, "y");
    }
    due("forty", x.look(f, 3), 1 + 40 + 8);
    x.truncate(f, 2500 * 20 - 100);
    due("twenty", x.look(f, 3), 1 + 20 + 5);
    due("faults", x.faults(), 0);
    x.truncate(f, 2300);
    due("one", x.look(f, 3), 2);
    x.sync();
    due("USED", x.count(1), 1 + 1 + 2);
    due("faults", x.faults(), 0);
  }

  private void fsync() {
    begin(16);
    int f = file(1, "f");
    int g = file(1, "g");
    argument("no such file", () -> x.fsync(9));
    argument("a directory", () -> x.fsync(1));
    due("a new file takes a checkpoint", x.fsync(f), 1);
    due("FRESH", x.count(2), 0);
    due("checkpoints", x.count(3), 2);
    due("one that was there", x.fsync(g), 0);
    due("FRESH", x.count(2), 1);
    due("no checkpoint", x.count(3), 2);
    put(f, 0, "one");
    due("alone", x.fsync(f), 0);
    put(f, 0, "two");
    put(g, 0, "gee");
    file(1, "h");
    x.power();
    due("both, also that with nothing new", x.mount(), 2);
    text("as it was at fsync", bytes(f, 0, 9), "one");
    due("not fsynced since", x.look(g, 1), 0);
    due("the tree is the checkpoint's", found(1, "h"), -1);
    put(f, 0, "three");
    x.fsync(f);
    x.truncate(f, 2);
    x.fsync(f);
    x.power();
    due("the latest of two", x.mount(), 1);
    text("bytes", bytes(f, 0, 9), "th");
    put(f, 0, "four");
    x.fsync(f);
    put(f, 0, "5");
    x.sync();
    x.power();
    due("a checkpoint came later", x.mount(), 0);
    text("bytes", bytes(f, 0, 9), "5our");
    put(f, 50000, "far");
    x.fsync(f);
    x.unlink(1, on("f"));
    due("its id waits", file(1, "i"), 4);
    x.power();
    due("gone later", x.mount(), 1);
    due("it is back", found(1, "f"), f);
    text("with its bytes", bytes(f, 50000, 9), "far");
    due("blocks there", x.look(f, 3), 1 + 2 + 5);
    due("faults", x.faults(), 0);
  }

  private void fsyncAndNames() {
    begin(16);
    int f = file(1, "f");
    int g = file(1, "g");
    int d = directory(1, "d");
    x.sync();
    x.link(f, d, on("l"));
    due("linked", x.fsync(f), 1);
    due("then alone", x.fsync(f), 0);
    x.unlink(d, on("l"));
    due("unlinked", x.fsync(f), 1);
    moved(1, "f", 1, "e");
    due("renamed", x.fsync(f), 1);
    moved(1, "e", 1, "e");
    due("a rename that changes nothing", x.fsync(f), 0);
    x.link(g, d, on("g"));
    x.sync();
    moved(1, "e", d, "g");
    due("lost a name to another's", x.fsync(g), 1);
    moved(1, "d", 1, "c");
    due("its directory's name is none of its own", x.fsync(f), 0);
    x.truncate(f, 200);
    x.fsync(f);
    x.power();
    due("brought forward", x.mount(), 1);
    due("not small", x.look(f, 4), 0);
    due("the rename of the directory was not committed", found(1, "d"), d);
    due("faults", x.faults(), 0);
  }

  private void sync() {
    begin(17);
    due("the second", x.sync(), 2);
    file(1, "a");
    due("the third", x.sync(), 3);
    due("USED", x.count(1), 3);
    due("FRESH", x.count(2), 0);
    failAndMount();
    due("mount's counts", x.sync(), 5);
    x.cut(3);
    unsupported("cut", () -> x.sync());
    x.mount();
    due("a cut one does not", x.sync(), 7);
    due("what was made is there", found(1, "a"), 2);
    x.format(48, 24);
    due("since format", x.sync(), 2);
  }

  /** USED, FRESH and the checkpoint that a need takes. */
  private void needsAndCheckpoints() {
    begin(20);
    int f = file(1, "f");
    x.sync();
    due("USED", x.count(1), 3);
    for (int i = 0; i < 63; i++) {
      x.truncate(f, 5);
    }
    due("FRESH", x.count(2), 378);
    due("checkpoints", x.count(3), 2);
    x.fsync(f);
    x.fsync(f);
    x.fsync(f);
    due("just full", x.count(1) + x.count(2), 16 * 24);
    argument("what throws otherwise takes none", () -> x.truncate(f, -1));
    state("what throws otherwise takes none", () -> unlinked(1, "x"));
    due("checkpoints", x.count(3), 2);
    x.truncate(f, 0);
    due("a checkpoint", x.count(3), 3);
    due("FRESH", x.count(2), 6);
    due("find and read need none", found(1, "f"), f);
    due("FRESH", x.count(2), 6);
    fillRoom(16 * 24, f, 5, f);
    put(f, 0, "x");
    due("a checkpoint", x.count(3), 4);
    due("FRESH", x.count(2), 7);
    x.sync();
    for (int i = 0; i < 63; i++) {
      x.truncate(f, 5);
    }
    file(1, "g");
    due("three were left, so a checkpoint", x.count(3), 6);
    due("USED", x.count(1), 3);
    due("FRESH", x.count(2), 4);
  }

  /** Long files without bytes are in use with more than they need, so they can fill the room. */
  private void refusals() {
    begin(15);
    for (int i = 0; i < 34; i++) {
      x.truncate(file(1, "f" + (char) (48 + i)), 100000);
    }
    due("blocks", x.count(0), 1 + 34 * 11);
    int g = file(1, "g");
    x.sync();
    int before = x.count(3);
    due("seven are left", x.count(1), 377);
    state("two blocks need eight", () -> put(g, 255, "xy"));
    state("rename needs eight", () -> moved(1, "g", 1, "h"));
    state("also when nothing would change", () -> moved(1, "g", 1, "g"));
    due("each took a checkpoint", x.count(3), before + 3);
    due("nothing else changed", x.look(g, 1), 0);
    due("one block needs seven", put(g, 0, "x"), 1);
    due("FRESH", x.count(2), 7);
    x.truncate(g, 100000);
    due("with a checkpoint it fits", x.count(3), before + 4);
    due("more than there is room", x.count(0), 386);
    state("make", () -> x.make(1, on("z")));
    state("makeDirectory", () -> x.makeDirectory(1, on("z")));
    state("link", () -> x.link(g, 1, on("z")));
    state("unlink", () -> x.unlink(1, on("g")));
    state("write", () -> put(g, 0, "y"));
    state("truncate", () -> x.truncate(g, 0));
    state("fsync", () -> x.fsync(g));
    due("each took a checkpoint", x.count(3), before + 11);
    due("USED", x.count(1), 386);
    due("FRESH", x.count(2), 0);
    text("as it was", bytes(g, 0, 2), "x\0");
    due("faults", x.faults(), 0);
    failAndMount();
    due("USED behind mount", x.count(1), 386);
    x.cut(0);
    unsupported("the checkpoint comes ahead of the refusal", () -> x.truncate(g, 0));
    x.mount();
    due("faults", x.faults(), 0);
  }

  private void name() {
    begin(18);
    String[] names = {"b", "ab", "a", "\u00e9", "aa", "\1", filled(20, 'a'), "z", filled(19, 'a')};
    for (String n : names) {
      file(1, n);
    }
    String[] sorted = {"\1", "a", "aa", filled(19, 'a'), filled(20, 'a'), "ab", "b", "z", "\u00e9"};
    for (int k = 0; k < sorted.length; k++) {
      text("name " + k, told(x.name(1, k)), sorted[k]);
    }
    due("no more", x.name(1, 9), -1);
    due("far behind", x.name(1, Integer.MAX_VALUE), -1);
    argument("k below 0", () -> x.name(1, -1));
    argument("no such directory", () -> x.name(77, 0));
    argument("a file", () -> x.name(2, 0));
    x.unlink(1, on("aa"));
    text("behind unlink", told(x.name(1, 2)), filled(19, 'a'));
    int d = directory(1, "dd");
    due("an empty one", x.name(d, 0), -1);
    for (int i = 47; i >= 0; i--) {
      file(d, "n" + (char) (200 + i));
    }
    for (int i = 0; i < 48; i++) {
      text("name " + i, told(x.name(d, i)), "n" + (char) (200 + i));
    }
    due("48", x.name(d, 48), -1);
  }

  private void look() {
    begin(19);
    int f = file(1, "f");
    int d = directory(1, "d");
    file(d, "e");
    x.truncate(f, 300);
    int[][] want = {{1, 300, 1, 2, 0}, {2, 1, 1, 2, 0}, {2, 2, 1, 3, 0}, {0, 0, 0, 0, 0}};
    int[] ids = {f, d, 1, 77};
    for (int i = 0; i < ids.length; i++) {
      for (int what = 0; what <= 4; what++) {
        due("look(" + ids[i] + ", " + what + ")", x.look(ids[i], what), want[i][what]);
      }
    }
    int[] none = {0, -1, 251, 2047, 300, Integer.MAX_VALUE, Integer.MIN_VALUE};
    for (int id : none) {
      for (int what = 0; what <= 4; what++) {
        due("look(" + id + ", " + what + ")", x.look(id, what), 0);
      }
      argument("no such what", () -> x.look(id, 5));
    }
    argument("no such what", () -> x.look(1, -1));
    put(f, 256 * 100, "x");
    due("a file's nodes are no ids", x.look(251, 0), 0);
  }

  private void count() {
    begin(20);
    argument("no such what", () -> x.count(6));
    argument("no such what", () -> x.count(-1));
    int f = file(1, "f");
    directory(1, "d");
    due("blocks", x.count(0), 5);
    due("USED", x.count(1), 1);
    due("FRESH", x.count(2), 8);
    due("checkpoints", x.count(3), 1);
    due("brought forward", x.count(4), 0);
    due("ids", x.count(5), 3);
    x.sync();
    x.truncate(f, 97);
    x.fsync(f);
    due("blocks", x.count(0), 6);
    due("USED", x.count(1), 5);
    due("FRESH", x.count(2), 7);
    failAndMount();
    due("USED", x.count(1), 6);
    due("FRESH", x.count(2), 0);
    due("checkpoints", x.count(3), 3);
    due("brought forward", x.count(4), 1);
    x.sync();
    due("by the latest mount", x.count(4), 1);
    failAndMount();
    due("by the latest mount", x.count(4), 0);
  }

  private void power() {
    begin(21);
    file(1, "a");
    x.sync();
    int b = file(1, "b");
    due("made", b, 3);
    on("tape");
    x.cut(9);
    x.power();
    withoutPower();
    due("the tape stays", x.tape(0), 4);
    x.mount();
    due("a cut that waits is forgotten", x.sync(), 4);
    x.tape(4);
    x.find(1, 4);
    due("what was committed", found(1, "a"), 2);
    due("what was not", found(1, "b"), -1);
    due("its id is free", file(1, "c"), 3);
  }

  private void cut() {
    begin(22);
    int f = file(1, "f");
    x.sync();
    int[] blocks = {0, 1, 2, 10, 33, 34, 35, 1000, Integer.MAX_VALUE};
    for (int k : blocks) {
      put(f, 0, "lost");
      file(1, "g");
      x.cut(k);
      due("no commit yet", x.look(f, 1), 4);
      unsupported("sync", () -> x.sync());
      state("the power is off", () -> x.count(0));
      due("nothing brought forward", x.mount(), 0);
      due("as if it had not been begun", x.look(f, 1), 0);
      due("names, too", found(1, "g"), -1);
      x.cut(k);
      put(f, 0, "lost");
      unsupported("fsync alone", () -> x.fsync(f));
      due("nothing brought forward", x.mount(), 0);
      due("as if it had not been begun", x.look(f, 1), 0);
      file(1, "g");
      x.cut(k);
      unsupported("fsync by a checkpoint", () -> x.fsync(3));
      x.mount();
      due("as if it had not been begun", found(1, "g"), -1);
      due("faults", x.faults(), 0);
    }
    x.cut(5);
    x.cut(-1);
    int count = x.count(3);
    due("the later counts: none is", x.sync(), count + 1);
    x.cut(-1);
    x.cut(0);
    unsupported("the later counts", () -> x.sync());
    x.mount();
    due("it is forgotten then", x.sync(), count + 3);
    x.cut(0);
    unsupported("also when nothing is new", () -> x.fsync(f));
    x.mount();
    x.cut(0);
    argument("what throws otherwise is no commit", () -> x.fsync(99));
    x.clean();
    unsupported("clean commits nothing", () -> x.sync());
    x.mount();
    put(f, 0, "kept");
    x.fsync(f);
    put(f, 0, "lost");
    x.cut(1);
    unsupported("a cut fsync", () -> x.fsync(f));
    due("the former fsync counts", x.mount(), 1);
    text("bytes", bytes(f, 0, 9), "kept");
  }

  private void cutByNeed() {
    begin(22);
    int f = file(1, "f");
    x.sync();
    for (int i = 0; i < 63; i++) {
      x.truncate(f, 5);
    }
    x.cut(2);
    on("ab");
    state("what throws otherwise takes no checkpoint", () -> x.rename(1, 1, 1, 1));
    on("a");
    unsupported("a need's checkpoint is cut", () -> x.make(1, 1));
    due("the tape is used up", x.tape(0), 0);
    x.mount();
    due("as if it had not been begun", x.look(f, 1), 0);
    due("no name", found(1, "a"), -1);
  }

  private void mount() {
    begin(23);
    state("mounted", () -> x.mount());
    int f = file(1, "f");
    put(f, 1000, "x");
    x.sync();
    x.truncate(f, 0);
    x.unlink(1, on("f"));
    x.power();
    due("none", x.mount(), 0);
    due("checkpoints", x.count(3), 3);
    due("the tree of the latest checkpoint", found(1, "f"), f);
    due("size", x.look(f, 1), 1001);
    due("blocks", x.count(0), 5);
    state("mounted", () -> x.mount());
    for (int i = 0; i < 60; i++) {
      put(f, 256 * i, "r" + (char) (i + 1));
      x.fsync(f);
      x.power();
      due("one each time", x.mount(), 1);
    }
    for (int i = 0; i < 60; i += 2) {
      text("bytes", bytes(f, 256 * i, 2), "r" + (char) (i + 1));
    }
    due("faults", x.faults(), 0);
  }

  /** Files are brought forward with nodes that came and went since the checkpoint. */
  private void mountBringsForward() {
    begin(23);
    int[] f = new int[6];
    for (int i = 0; i < f.length; i++) {
      f[i] = file(1, "f" + (char) (65 + i));
      put(f[i], 256 * (60 * i + 5), "old");
    }
    x.sync();
    for (int i = 0; i < f.length; i++) {
      x.truncate(f[i], 100);
      put(f[i], 256 * (390 - 60 * i), "new" + i);
    }
    for (int i = 0; i < 3; i++) {
      x.fsync(f[i]);
    }
    for (int i = 0; i < f.length; i++) {
      x.truncate(f[i], 0);
      put(f[i], 256 * 200, "later");
    }
    x.clean();
    x.power();
    due("three", x.mount(), 3);
    due("faults", x.faults(), 0);
    for (int i = 0; i < 3; i++) {
      due("size", x.look(f[i], 1), 256 * (390 - 60 * i) + 4);
      text("bytes", bytes(f[i], 256 * (390 - 60 * i) - 1, 9), "\0new" + i);
      text("what was cut off", bytes(f[i], 256 * (60 * i + 5), 3).substring(0, 3), "\0\0\0");
    }
    for (int i = 3; i < f.length; i++) {
      text("bytes", bytes(f[i], 256 * (60 * i + 5) - 1, 9), "\0old");
    }
  }

  private void clean() {
    begin(24);
    int[] f = new int[6];
    for (int i = 0; i < f.length; i++) {
      f[i] = file(1, "f" + (char) (48 + i));
    }
    for (int round = 0; round < 12; round++) {
      for (int i = 0; i < f.length; i++) {
        put(f[i], 256 * ((round * 7 + i * 3) % 30), "r" + round % 10 + i);
        x.fsync(f[i]);
      }
      int[] before = new int[6];
      for (int what = 0; what < 6; what++) {
        before[what] = x.count(what);
      }
      x.clean();
      x.clean();
      for (int what = 0; what < 6; what++) {
        due("count " + what, x.count(what), before[what]);
      }
      due("faults", x.faults(), 0);
      if (round % 4 == 3) {
        failAndMount();
      }
    }
    for (int i = 0; i < f.length; i++) {
      text("bytes", bytes(f[i], 256 * ((77 + i * 3) % 30), 3), "r1" + i);
    }
    x.power();
    state("without power", () -> x.clean());
  }
}
