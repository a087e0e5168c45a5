import java.lang.reflect.Field;
import java.lang.reflect.Method;
import java.util.HashMap;
import java.util.Map;

/** What only shows inside the object: the device's blocks, memory without power, faults put in. */
public final class InsideTest extends Trial {
  public static void main(String[] args) throws Exception {
    InsideTest t = new InsideTest();
    t.sameHash();
    t.cutBlocks();
    t.faults();
    t.deviceAlone();
    t.end();
  }

  /** Two names of the same hash are two names. */
  private void sameHash() throws Exception {
    begin("promise 11");
    Method hashOf = FlashFiles.class.getDeclaredMethod("hashOf", int[].class, int.class);
    hashOf.setAccessible(true);
    Map<Object, String> seen = new HashMap<>();
    int pairs = 0;
    for (int i = 0; i < 26 * 26 * 26 && pairs < 5; i++) {
      String name = "" + (char) (97 + i / 676) + (char) (97 + i / 26 % 26) + (char) (97 + i % 26);
      int word = name.charAt(0) << 24 | name.charAt(1) << 16 | name.charAt(2) << 8;
      String other = seen.put(hashOf.invoke(null, new int[] {word, 0, 0, 0, 0}, 0), name);
      if (other != null) {
        pairs++;
        int f = file(1, name);
        due("not there", found(1, other), -1);
        int g = file(1, other);
        due("the one", found(1, name), f);
        due("the other", found(1, other), g);
        x.unlink(1, on(name));
        due("the other stays", found(1, other), g);
        due("the one is gone", found(1, name), -1);
      }
    }
    due("pairs", pairs, 5);
    due("faults", x.faults(), 0);
  }

  /** A pack has 34 blocks; a cut one is written up to a number, but never its last one. */
  private void cutBlocks() throws Exception {
    int[] cuts = {0, 1, 5, 33, 34, Integer.MAX_VALUE};
    for (int k : cuts) {
      begin("promise 22");
      x.cut(k);
      unsupported("sync", () -> x.sync());
      boolean[] written = (boolean[]) inside("device", "written");
      int count = 0;
      for (int block = 1; block < 69; block++) {
        count += written[block] ? 1 : 0;
      }
      due("blocks of the whole pack and of the cut one", count, 34 + Math.min(k, 33));
    }
  }

  /** Spoils memory and the device behind the class's back: faults() must see it. */
  private void faults() throws Exception {
    begin("promise 25");
    due("none", x.faults(), 0);
    int f = file(1, "f");
    put(f, 256 * 30, "x");
    due("none", x.faults(), 0);
    int[] places = (int[]) inside("table", "places");
    int[] words = (int[]) inside("device", "words");
    int inode = 64 * places[f];
    int root = 64 * places[1];
    int node = 64 * places[251];
    int slot = root + 6;
    while (words[slot] == 0) {
      slot++;
    }
    int entry = 64 * (words[slot] & 4095);
    seen("a count of names", words, root + 1, 2);
    seen("a name's hash", words, slot, words[slot] ^ 1 << 30);
    seen("a name's id", words, entry, 9);
    seen("a name's bytes", words, entry + 2, 1 << 24);
    seen("a size that ends too early", words, inode + 1, 256);
    seen("a count of links", words, inode + 2, 2);
    seen("a small file with blocks", words, inode + 3, 1);
    seen("a count of blocks", words, inode + 4, 3);
    seen("two owners of one block", words, inode + 7, words[inode + 6]);
    seen("a pointer to nowhere", words, inode + 7, 4000);
    seen("a node that nobody leads to", words, inode + 26, 0);
    seen("a node that is not there", words, inode + 27, 300);
    seen("a node of another number", words, node + 60, 252);
    seen("a node of another owner", words, node + 61, 1);
    seen("a pack that is not whole", words, 64 * (1 + 34 + 33), 7);
    seen("a node that stands elsewhere", places, f, places[1]);
    int[] use = (int[]) inside("log", "use");
    seen("a block in use that the table tells free", use, places[f], 0);
    seen("a block not in use", use, 69 + 16 * 20, 1);
    int segment = (places[f] - 69) / 16;
    seen("a segment's nodes", (int[]) inside("log", "nodes"), segment, 0);
    seen("a segment's data", (int[]) inside("log", "data"), segment, 1);
    boolean[] free = (boolean[]) inside("log", "free");
    free[segment] = true;
    atLeastOne("a segment in use that is told free");
    free[segment] = false;
    boolean[] written = (boolean[]) inside("device", "written");
    written[places[f]] = false;
    atLeastOne("a node that was never written");
    written[places[f]] = true;
    due("none again", x.faults(), 0);
  }

  private void seen(String what, int[] row, int at, int value) {
    int kept = row[at];
    row[at] = value;
    atLeastOne(what);
    row[at] = kept;
  }

  private void atLeastOne(String what) {
    due(what + " is seen", x.faults() == 0 ? 0 : 1, 1);
  }

  private Object inside(String part, String field) throws Exception {
    Field outer = FlashFiles.class.getDeclaredField(part);
    outer.setAccessible(true);
    Object of = outer.get(x.bare());
    Field inner = of.getClass().getDeclaredField(field);
    inner.setAccessible(true);
    return inner.get(of);
  }

  /** When the power is off memory knows nothing: what comes back is on the device. */
  private void deviceAlone() throws Exception {
    begin("promise 21");
    int f = file(1, "f");
    put(f, 256 * 30, "x");
    x.sync();
    x.power();
    int sum = 0;
    for (String[] row : new String[][] {{"log", "use"}, {"log", "nodes"}, {"log", "data"}, {"table", "places"}, {"table", "kept"}}) {
      for (int v : (int[]) inside(row[0], row[1])) {
        sum |= v;
      }
    }
    due("what memory knows", sum, 0);
    x.mount();
    text("bytes", bytes(f, 256 * 30, 1), "x");
  }
}
