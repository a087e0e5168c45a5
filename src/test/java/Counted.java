/** A FlashFiles whose calls are counted: the document promises nothing behind the 512th. */
final class Counted {
  private static final int MOST = 512;

  private final FlashFiles x = new FlashFiles();
  private int calls;

  /** The object itself, for tests that look inside. */
  FlashFiles bare() {
    return x;
  }

  private FlashFiles next() {
    calls++;
    if (calls > MOST) {
      throw new AssertionError("a test makes more than 512 calls on one object");
    }
    return x;
  }

  void format(int s, int r) {
    next().format(s, r);
  }

  int feed(int a, int b, int c, int d, int e) {
    return next().feed(a, b, c, d, e);
  }

  int tape(int k) {
    return next().tape(k);
  }

  int make(int directory, int n) {
    return next().make(directory, n);
  }

  int makeDirectory(int directory, int n) {
    return next().makeDirectory(directory, n);
  }

  int link(int file, int directory, int n) {
    return next().link(file, directory, n);
  }

  int unlink(int directory, int n) {
    return next().unlink(directory, n);
  }

  void removeDirectory(int directory, int n) {
    next().removeDirectory(directory, n);
  }

  void rename(int directory, int n, int other, int m) {
    next().rename(directory, n, other, m);
  }

  int find(int directory, int n) {
    return next().find(directory, n);
  }

  int write(int file, int at, int n) {
    return next().write(file, at, n);
  }

  int read(int file, int at, int n) {
    return next().read(file, at, n);
  }

  int byteAt(int i) {
    return next().byteAt(i);
  }

  void truncate(int file, int size) {
    next().truncate(file, size);
  }

  int fsync(int file) {
    return next().fsync(file);
  }

  int sync() {
    return next().sync();
  }

  int name(int directory, int k) {
    return next().name(directory, k);
  }

  int look(int id, int what) {
    return next().look(id, what);
  }

  int count(int what) {
    return next().count(what);
  }

  void power() {
    next().power();
  }

  void cut(int blocks) {
    next().cut(blocks);
  }

  int mount() {
    return next().mount();
  }

  void clean() {
    next().clean();
  }

  int faults() {
    return next().faults();
  }
}
