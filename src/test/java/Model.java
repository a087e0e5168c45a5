import java.util.Arrays;
import java.util.HashMap;
import java.util.Map;
import java.util.TreeMap;

/** The document's words without any device: what FlashFiles must answer, told the short way. */
final class Model {
  static final int FILE = 1;
  static final int DIRECTORY = 2;

  private static final class Item {
    final int kind;
    final TreeMap<String, Integer> names = new TreeMap<>();
    byte[] bytes = new byte[0];
    boolean small = true;
    boolean[] there = new boolean[391];
    int links = 1;
    boolean nameChanged;

    Item(int kind) {
      this.kind = kind;
    }

    Item copy() {
      Item c = new Item(kind);
      c.names.putAll(names);
      c.bytes = bytes.clone();
      c.small = small;
      c.there = there.clone();
      c.links = links;
      return c;
    }

    int blocks() {
      if (kind == DIRECTORY) {
        return 1 + names.size();
      }
      if (small) {
        return 1;
      }
      int sum = 1;
      for (boolean t : there) {
        sum += t ? 1 : 0;
      }
      int begun = (bytes.length + 255) / 256;
      if (begun > 132) {
        sum += 3 + (begun - 132 + 55) / 56;
      } else if (begun > 76) {
        sum += 2;
      } else if (begun > 20) {
        sum += 1;
      }
      return sum;
    }

    void setSize(int size) {
      bytes = Arrays.copyOf(bytes, size);
      if (size == 0) {
        small = true;
        Arrays.fill(there, false);
      }
      if (small && size > 96) {
        small = false;
        there[0] = true;
      }
      for (int k = (size + 255) / 256; k < there.length; k++) {
        there[k] = false;
      }
    }
  }

  private final StringBuilder tape = new StringBuilder();
  private int[] told = new int[0];
  private boolean device;
  private boolean on;
  private int room;
  private Map<Integer, Item> now = new HashMap<>();
  private Map<Integer, Item> kept = new HashMap<>();
  private Map<Integer, Item> alone = new HashMap<>();
  private int used;
  private int fresh;
  private int checkpoints;
  private int forward;
  private boolean cutWaits;

  boolean isOff() {
    return device && !on;
  }

  void format(int s, int r) {
    if (s < 48 || s > 128 || r < 24 || r > s / 2) {
      throw new IllegalArgumentException();
    }
    device = true;
    on = true;
    room = 16 * (s - r);
    now = new HashMap<>();
    now.put(1, new Item(DIRECTORY));
    checkpoints = 0;
    forward = 0;
    cutWaits = false;
    checkpoint();
  }

  int feed(int a, int b, int c, int d, int e) {
    if (tape.length() + 20 > 2060) {
      throw new IllegalStateException();
    }
    for (int w : new int[] {a, b, c, d, e}) {
      for (int shift = 24; shift >= 0; shift -= 8) {
        tape.append((char) (w >>> shift & 255));
      }
    }
    return tape.length();
  }

  int tape(int k) {
    if (k > 0 && k < tape.length()) {
      tape.setLength(k);
    }
    return tape.length();
  }

  int make(int directory, int n) {
    return makeItem(directory, n, FILE);
  }

  int makeDirectory(int directory, int n) {
    return makeItem(directory, n, DIRECTORY);
  }

  private int makeItem(int directory, int n, int kind) {
    String name = nameOf(takeTape(), 0, n);
    Item d = directoryOf(directory);
    refuseIf(d.names.containsKey(name) || d.names.size() == 48 || freeId() == 0);
    need(4);
    int id = freeId();
    Item i = new Item(kind);
    i.nameChanged = true;
    now.put(id, i);
    d.names.put(name, id);
    return id;
  }

  int link(int file, int directory, int n) {
    String name = nameOf(takeTape(), 0, n);
    Item f = fileOf(file);
    Item d = directoryOf(directory);
    refuseIf(d.names.containsKey(name) || d.names.size() == 48);
    need(4);
    d.names.put(name, file);
    f.links++;
    f.nameChanged = true;
    return f.links;
  }

  int unlink(int directory, int n) {
    String name = nameOf(takeTape(), 0, n);
    Item d = directoryOf(directory);
    refuseIf(!d.names.containsKey(name) || now.get(d.names.get(name)).kind != FILE);
    need(4);
    return loseName(d.names.remove(name));
  }

  void removeDirectory(int directory, int n) {
    String name = nameOf(takeTape(), 0, n);
    Item d = directoryOf(directory);
    refuseIf(!d.names.containsKey(name));
    Item gone = now.get(d.names.get(name));
    refuseIf(gone.kind != DIRECTORY || !gone.names.isEmpty());
    need(4);
    now.remove(d.names.remove(name));
  }

  void rename(int directory, int n, int other, int m) {
    String tape = takeTape();
    String from = nameOf(tape, 0, n);
    String to = nameOf(tape, n, m);
    Item d = directoryOf(directory);
    Item o = directoryOf(other);
    Integer id = d.names.get(from);
    Integer lost = o.names.get(to);
    if (id != null && id.equals(lost)) {
      need(8);
      return;
    }
    refuseIf(id == null);
    if (lost != null) {
      refuseIf(now.get(lost).kind != now.get(id).kind || !now.get(lost).names.isEmpty());
    } else {
      refuseIf(other != directory && o.names.size() == 48);
    }
    refuseIf(now.get(id).kind == DIRECTORY && reaches(id, other));
    need(8);
    d.names.remove(from);
    o.names.put(to, id);
    now.get(id).nameChanged = true;
    if (lost != null) {
      loseName(lost);
    }
  }

  int find(int directory, int n) {
    String name = nameOf(takeTape(), 0, n);
    return directoryOf(directory).names.getOrDefault(name, -1);
  }

  int write(int file, int at, int n) {
    String tape = takeTape();
    Item f = fileOf(file);
    argument(n >= 1 && n <= 2000 && tape.length() >= n && at >= 0 && (long) at + n <= 100000);
    int firstBlock = at / 256;
    int lastBlock = (at + n - 1) / 256;
    need(lastBlock - firstBlock + 1 + 6);
    if (at + n > f.bytes.length) {
      f.setSize(at + n);
    }
    for (int i = 0; i < n; i++) {
      f.bytes[at + i] = (byte) tape.charAt(i);
    }
    for (int k = firstBlock; k <= lastBlock && !f.small; k++) {
      f.there[k] = true;
    }
    return f.bytes.length;
  }

  int read(int file, int at, int n) {
    power(on);
    Item f = fileOf(file);
    argument(n >= 1 && n <= 2000 && at >= 0);
    told = new int[Math.max(0, Math.min(n, f.bytes.length - at))];
    for (int i = 0; i < told.length; i++) {
      told[i] = f.bytes[at + i] & 255;
    }
    return told.length;
  }

  int byteAt(int i) {
    argument(i >= 0);
    return i < told.length ? told[i] : -1;
  }

  void truncate(int file, int size) {
    power(on);
    Item f = fileOf(file);
    argument(size >= 0 && size <= 100000);
    need(6);
    f.setSize(size);
  }

  int fsync(int file) {
    power(on);
    Item f = fileOf(file);
    need(1);
    if (f.nameChanged) {
      cutOr();
      checkpoint();
      return 1;
    }
    cutOr();
    alone.put(file, f.copy());
    return 0;
  }

  int sync() {
    power(on);
    cutOr();
    checkpoint();
    return checkpoints;
  }

  int name(int directory, int k) {
    power(on);
    Item d = directoryOf(directory);
    argument(k >= 0);
    told = new int[0];
    if (k >= d.names.size()) {
      return -1;
    }
    String name = (String) d.names.keySet().toArray()[k];
    told = name.chars().toArray();
    return told.length;
  }

  int look(int id, int what) {
    power(on);
    argument(what >= 0 && what <= 4);
    Item i = now.get(id);
    if (i == null) {
      return 0;
    }
    boolean file = i.kind == FILE;
    switch (what) {
      case 0: return i.kind;
      case 1: return file ? i.bytes.length : i.names.size();
      case 2: return file ? i.links : 1;
      case 3: return i.blocks();
      default: return file && i.small ? 1 : 0;
    }
  }

  int count(int what) {
    power(on);
    switch (what) {
      case 0: return blocks();
      case 1: return used;
      case 2: return fresh;
      case 3: return checkpoints;
      case 4: return forward;
      case 5: return now.size();
      default: throw new IllegalArgumentException();
    }
  }

  void power() {
    power(on);
    on = false;
    cutWaits = false;
  }

  void cut(int blocks) {
    power(on);
    cutWaits = blocks >= 0;
  }

  int mount() {
    power(device && !on);
    now = copyAll(kept);
    forward = alone.size();
    for (Map.Entry<Integer, Item> e : alone.entrySet()) {
      Item i = now.get(e.getKey());
      i.bytes = e.getValue().bytes;
      i.small = e.getValue().small;
      i.there = e.getValue().there;
    }
    on = true;
    checkpoint();
    return forward;
  }

  void clean() {
    power(on);
  }

  int faults() {
    power(on);
    return 0;
  }

  private int blocks() {
    int sum = 0;
    for (Item i : now.values()) {
      sum += i.blocks();
    }
    return sum;
  }

  private void checkpoint() {
    checkpoints++;
    used = blocks();
    fresh = 0;
    for (Item i : now.values()) {
      i.nameChanged = false;
    }
    kept = copyAll(now);
    alone = new HashMap<>();
  }

  private static Map<Integer, Item> copyAll(Map<Integer, Item> from) {
    Map<Integer, Item> to = new HashMap<>();
    for (Map.Entry<Integer, Item> e : from.entrySet()) {
      to.put(e.getKey(), e.getValue().copy());
    }
    return to;
  }

  private void need(int n) {
    if (used + fresh + n > room) {
      cutOr();
      checkpoint();
      refuseIf(used + n > room);
    }
    fresh += n;
  }

  private void cutOr() {
    if (cutWaits) {
      power();
      throw new UnsupportedOperationException();
    }
  }

  private int freeId() {
    for (int id = 1; id <= 250; id++) {
      if (!now.containsKey(id) && !kept.containsKey(id)) {
        return id;
      }
    }
    return 0;
  }

  private int loseName(int id) {
    Item i = now.get(id);
    i.links--;
    i.nameChanged = true;
    if (i.links == 0) {
      now.remove(id);
    }
    return i.links;
  }

  private boolean reaches(int from, int to) {
    if (from == to) {
      return true;
    }
    for (int child : now.get(from).names.values()) {
      if (reaches(child, to)) {
        return true;
      }
    }
    return false;
  }

  private String takeTape() {
    power(on);
    String all = tape.toString();
    tape.setLength(0);
    return all;
  }

  private static String nameOf(String tape, int from, int n) {
    argument(n >= 1 && n <= 20 && from + n <= tape.length());
    String name = tape.substring(from, from + n);
    argument(name.indexOf(0) < 0 && name.indexOf('/') < 0);
    return name;
  }

  private Item fileOf(int id) {
    argument(now.containsKey(id) && now.get(id).kind == FILE);
    return now.get(id);
  }

  private Item directoryOf(int id) {
    argument(now.containsKey(id) && now.get(id).kind == DIRECTORY);
    return now.get(id);
  }

  private static void power(boolean on) {
    refuseIf(!on);
  }

  private static void argument(boolean right) {
    if (!right) {
      throw new IllegalArgumentException();
    }
  }

  private static void refuseIf(boolean wrong) {
    if (wrong) {
      throw new IllegalStateException();
    }
  }
}
