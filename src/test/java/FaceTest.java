import java.lang.management.ManagementFactory;
import java.lang.reflect.Constructor;
import java.lang.reflect.Field;
import java.lang.reflect.Method;
import java.lang.reflect.Modifier;
import java.nio.file.Files;
import java.nio.file.Path;
import java.util.ArrayList;
import java.util.Arrays;
import java.util.List;
import java.util.Set;
import java.util.TreeSet;

/** The class's members, what its source may hold, and that calls make no objects. */
public final class FaceTest {
  private static final String IAE = " IllegalArgumentException";
  private static final String ISE = " IllegalStateException";
  private static final String UOE = " UnsupportedOperationException";
  // The return type, the name, how many ints it takes, what it may throw.
  private static final String[] FACE = {
    "void format 2" + IAE, "int feed 5" + ISE, "int tape 1", "int make 2" + IAE + ISE + UOE,
    "int makeDirectory 2" + IAE + ISE + UOE, "int link 3" + IAE + ISE + UOE,
    "int unlink 2" + IAE + ISE + UOE, "void removeDirectory 2" + IAE + ISE + UOE,
    "void rename 4" + IAE + ISE + UOE, "int find 2" + IAE + ISE, "int write 3" + IAE + ISE + UOE,
    "int read 3" + IAE + ISE, "int byteAt 1" + IAE, "void truncate 2" + IAE + ISE + UOE,
    "int fsync 1" + IAE + ISE + UOE, "int sync 0" + ISE + UOE, "int name 2" + IAE + ISE,
    "int look 2" + IAE + ISE, "int count 1" + IAE + ISE, "void power 0" + ISE, "void cut 1" + ISE,
    "int mount 0" + ISE, "void clean 0" + ISE, "int faults 0" + ISE
  };
  private static final String[] NEVER = {
    "->", "::", "try {", "catch (", "finally", "synchronized", "assert ", "Exact(", "lambda", "System.out",
    "hashCode", "toString", "@Override", "Object", "volatile", "Thread", "System.nano", "System.current"
  };

  private int wrong;

  public static void main(String[] args) throws Exception {
    FaceTest t = new FaceTest();
    t.face();
    t.members();
    t.source();
    t.nothingIsMade();
    System.out.println(t.wrong == 0 ? "FaceTest: all as due" : "FaceTest: " + t.wrong + " wrong");
    System.exit(t.wrong == 0 ? 0 : 1);
  }

  private void expect(boolean right, String what) {
    if (!right) {
      wrong++;
      System.out.println("not so: " + what);
    }
  }

  private static String told(Method m) {
    StringBuilder text = new StringBuilder();
    text.append(m.getReturnType().getSimpleName()).append(' ').append(m.getName()).append(' ');
    text.append(m.getParameterCount());
    for (Class<?> e : m.getExceptionTypes()) {
      text.append(' ').append(e.getSimpleName());
    }
    return text.toString();
  }

  private void face() {
    Set<String> due = new TreeSet<>(Arrays.asList(FACE));
    Set<String> got = new TreeSet<>();
    for (Method m : FlashFiles.class.getDeclaredMethods()) {
      if (Modifier.isPublic(m.getModifiers())) {
        got.add(told(m));
        for (Class<?> p : m.getParameterTypes()) {
          expect(p == int.class, m.getName() + " takes ints");
        }
      }
    }
    expect(due.equals(got), "the face is " + due + ", got " + got);
    expect(Modifier.isPublic(FlashFiles.class.getModifiers()), "public");
    expect(Modifier.isFinal(FlashFiles.class.getModifiers()), "final");
    Constructor<?>[] constructors = FlashFiles.class.getDeclaredConstructors();
    expect(constructors.length == 1 && Modifier.isPublic(constructors[0].getModifiers())
        && constructors[0].getParameterCount() == 0, "one public constructor");
  }

  private void members() {
    Set<String> names = new TreeSet<>();
    for (String line : FACE) {
      names.add(line.split(" ")[1]);
    }
    List<Class<?>> classes = new ArrayList<>(Arrays.asList(FlashFiles.class.getDeclaredClasses()));
    expect(classes.size() <= 11, "at most some twelve classes");
    for (Class<?> c : classes) {
      expect(Modifier.isStatic(c.getModifiers()), c + " is static");
      expect(!Modifier.isPublic(c.getModifiers()), c + " is not public");
    }
    classes.add(FlashFiles.class);
    for (Class<?> c : classes) {
      int fields = 0;
      for (Field f : c.getDeclaredFields()) {
        boolean isStatic = Modifier.isStatic(f.getModifiers());
        fields += isStatic ? 0 : 1;
        expect(!isStatic || Modifier.isFinal(f.getModifiers()), f + " is final");
        expect(Modifier.isPrivate(f.getModifiers()), f + " is private");
      }
      expect(fields <= 20, c + " has at most twenty fields");
      for (Method m : c.getDeclaredMethods()) {
        boolean ofFace = c == FlashFiles.class && Modifier.isPublic(m.getModifiers());
        expect(ofFace || !names.contains(m.getName()), m + " bears no name of the face");
        expect(ofFace || c != FlashFiles.class || Modifier.isPrivate(m.getModifiers()), m + " is private");
        expect(m.getParameterCount() <= 7, m + " takes at most seven");
      }
    }
  }

  private void source() throws Exception {
    String text = Files.readString(Path.of("src/main/java/FlashFiles.java"));
    String code = text.replaceAll("(?s)/\\*.*?\\*/", "").replaceAll("//[^\n]*", "");
    for (String never : NEVER) {
      expect(!code.contains(never), "no '" + never + "' in the source");
    }
    for (String line : code.split("\n")) {
      expect(!line.startsWith("import ") || line.equals("import java.util.Arrays;"), line);
      expect(!line.startsWith("package "), "no package");
    }
    for (Class<?> c : FlashFiles.class.getDeclaredClasses()) {
      for (Field f : c.getDeclaredFields()) {
        expect(f.getType() != boolean[].class || !code.contains("fill(" + f.getName()),
            "Arrays.fill over numbers alone, not " + f.getName());
      }
    }
  }

  /** The same calls twice: by the second time all classes are loaded, and nothing is made. */
  private void nothingIsMade() {
    com.sun.management.ThreadMXBean threads =
        (com.sun.management.ThreadMXBean) ManagementFactory.getThreadMXBean();
    long own = Thread.currentThread().getId();
    FlashFiles x = new FlashFiles();
    manyCalls(x);
    long before = threads.getThreadAllocatedBytes(own);
    manyCalls(x);
    long made = threads.getThreadAllocatedBytes(own) - before;
    expect(made < 2000, "calls make nothing, got " + made + " bytes");
  }

  private static void manyCalls(FlashFiles x) {
    x.format(48, 24);
    x.feed(0x61000000, 0, 0, 0, 0);
    int f = x.make(1, 1);
    x.feed(0x62000000, 0, 0, 0, 0);
    int d = x.makeDirectory(1, 1);
    x.feed(0x63000000, 0, 0, 0, 0);
    x.link(f, d, 1);
    for (int i = 0; i < 60; i++) {
      x.feed(i, 2, 3, 4, 5);
      x.write(f, 1000 * i, 20);
      x.fsync(f);
      x.clean();
    }
    x.feed(0x63640000, 0, 0, 0, 0);
    x.rename(d, 1, d, 1);
    x.feed(0x64000000, 0, 0, 0, 0);
    x.find(d, 1);
    x.read(f, 0, 2000);
    x.byteAt(3);
    x.name(1, 1);
    x.look(f, 3);
    x.count(0);
    x.sync();
    x.truncate(f, 5000);
    x.fsync(f);
    x.power();
    x.mount();
    x.faults();
    x.feed(0x64000000, 0, 0, 0, 0);
    x.unlink(d, 1);
    x.feed(0x62000000, 0, 0, 0, 0);
    x.removeDirectory(1, 1);
    x.tape(0);
    x.cut(-1);
  }
}
