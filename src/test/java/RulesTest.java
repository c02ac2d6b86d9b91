import java.lang.management.ManagementFactory;
import java.lang.reflect.Constructor;
import java.lang.reflect.Field;
import java.lang.reflect.InvocationTargetException;
import java.lang.reflect.Method;
import java.lang.reflect.Modifier;
import java.nio.file.Files;
import java.nio.file.Path;
import java.util.ArrayList;
import java.util.Arrays;
import java.util.Comparator;
import java.util.List;
import java.util.Set;
import java.util.TreeSet;
import java.util.regex.Matcher;
import java.util.regex.Pattern;

/** The public face, and what of LANGUAGE.md can be seen in the class, in its source and in its memory. */
public final class RulesTest {
  private static final String FACE = "boolean clock 1, int stuff 2, int truth 2, int fact 3, int piece 8, int page 3, int of 2, int shared 2, "
      + "int feed 5, int end 1, int reader 0, int maker 0, int chance 3, int tells 4, int look 4, int test 2, int keep 2, int stand 2, int cost 1, "
      + "int cheapest 1, int likely 1, int kin 2, int could 1, int outrun 2, int grows 0, int make 5, long soonest 4, int surest 3, int person 4, "
      + "boolean ask 1, int unasked 2, int gain 2, int count 1, int image 1, int back 1";
  private static int wrong = 0;
  private static void must(boolean holds, String what) { if (!holds) { wrong++; System.out.println("against the rules: " + what); } }

  public static void main(String[] args) throws Exception {
    face();
    classes();
    source(Files.readString(Path.of(args.length > 0 ? args[0] : "src/main/java/SafeVolumes.java")));
    memory();
    for (int seed = 1; seed <= 40; seed++) neverThrows(new Draws(seed));
    System.out.println(wrong == 0 ? "the rules are kept" : wrong + " rules are not kept");
    if (wrong != 0) System.exit(1);
  }

  private static void face() {
    Class<?> c = SafeVolumes.class;
    must(Modifier.isPublic(c.getModifiers()) && Modifier.isFinal(c.getModifiers()), "the class is public and final");
    Set<String> due = new TreeSet<>(Set.of(FACE.split(", "))), is = new TreeSet<>();
    for (Method m : c.getDeclaredMethods()) {
      if (Modifier.isPrivate(m.getModifiers())) continue;
      must(Modifier.isPublic(m.getModifiers()) && !Modifier.isStatic(m.getModifiers()), m + " is public");
      for (Class<?> p : m.getParameterTypes()) must(p == int.class, m + " takes int alone");
      must(is.add(m.getReturnType() + " " + m.getName() + " " + m.getParameterCount()), m + " stands once");
    }
    must(due.equals(is), "the methods are those of the document: " + is);
    Constructor<?>[] makers = c.getDeclaredConstructors();
    must(makers.length == 1 && Modifier.isPublic(makers[0].getModifiers()) && makers[0].getParameterCount() == 0, "one constructor");
    for (Field f : c.getDeclaredFields()) must(Modifier.isPrivate(f.getModifiers()) || f.getName().equals("NONE"), f + " is private");
  }

  private static void classes() {
    Set<String> open = new TreeSet<>();
    for (Method m : SafeVolumes.class.getDeclaredMethods()) if (Modifier.isPublic(m.getModifiers())) open.add(m.getName());
    Class<?>[] inside = SafeVolumes.class.getDeclaredClasses();
    must(inside.length <= 11, "at most twelve classes");
    for (int i = -1; i < inside.length; i++) {
      Class<?> c = i < 0 ? SafeVolumes.class : inside[i];
      must(i < 0 || Modifier.isStatic(c.getModifiers()) && !Modifier.isPublic(c.getModifiers()), c + " is static and not public");
      int fields = 0;
      for (Field f : c.getDeclaredFields()) {
        if (Modifier.isStatic(f.getModifiers())) must(Modifier.isFinal(f.getModifiers()), f + " is final");
        else fields++;
      }
      must(fields <= 20, c + " has at most twenty fields");
      for (Method m : c.getDeclaredMethods()) {
        must(i < 0 && Modifier.isPublic(m.getModifiers()) || !open.contains(m.getName()), m + " bears no public one's name");
        must(m.getParameterCount() <= 7 || m.getName().equals("piece"), m + " takes at most seven");
      }
    }
  }

  private static void source(String text) {
    String bare = text.replaceAll("(?s)/\\*.*?\\*/", " ").replaceAll("//[^\n]*", " ").replaceAll("\"[^\"\n]*\"", "\"\"").replaceAll("'[^'\n]*'", "' '");
    for (String no : new String[] {"throw", "throws", "try", "catch", "finally", "synchronized", "assert", "import", "package", "instanceof",
        "double", "float", "Object", "protected", "volatile", "transient", "native", "var", "yield", "record", "sealed", "Exception", "Error", "System.out"}) {
      must(!Pattern.compile("\\b" + Pattern.quote(no) + "\\b").matcher(bare).find(), "no " + no);
    }
    for (String no : new String[] {"->", "::", "@", "Exact", "\"\" +", "+ \"\"", "values()", "toString", "hashCode", "\t"}) must(!bare.contains(no), "no " + no);
    Matcher library = Pattern.compile("\\b(Math|Integer|Long|System|Arrays|String|StringBuilder|List|ArrayList)\\.(\\w+)").matcher(bare);
    Set<String> may = Set.of("Math.max", "Math.min", "Math.abs", "Integer.bitCount", "Integer.signum", "System.arraycopy");
    while (library.find()) must(may.contains(library.group()), library.group() + " is among what is used");
    for (int i = 0; i < text.length(); i++) if (text.charAt(i) > 126 || text.charAt(i) < 32 && text.charAt(i) != '\n') must(false, "a sign of ASCII at " + i);
    int start = -1, n = 0;
    for (String line : text.split("\n")) {
      n++;
      must(line.length() <= 125, "line " + n + " is short");
      if (line.matches(" {4}( {4})?[a-z].*\\) \\{")) start = n;
      if (start >= 0 && line.matches(" {4}( {4})?\\}")) { must(n - start < 60, "the method from line " + start + " is short"); start = -1; }
    }
  }

  /** Calls of all kinds with arguments of all kinds, also far behind the 512th call: none may throw. */
  private static void neverThrows(Draws draws) throws Exception {
    SafeVolumes x = new SafeVolumes();
    List<Method> open = new ArrayList<>();
    for (Method m : SafeVolumes.class.getDeclaredMethods()) if (Modifier.isPublic(m.getModifiers())) open.add(m);
    open.sort(Comparator.comparing(Method::getName));
    boolean mild = draws.once(2);
    for (int i = 0; i < 3000; i++) {
      if (draws.once(3)) ordinary(x, draws);
      if (draws.once(40)) Texts.feed(x, draws.once(2) ? new Texts(draws).reader() : new Texts(draws).maker());
      Method m = open.get(draws.below(open.size()));
      Object[] with = new Object[m.getParameterCount()];
      for (int k = 0; k < with.length; k++) with[k] = mild || draws.once(3) ? argument(draws) : draws.any();
      try {
        m.invoke(x, with);
      } catch (InvocationTargetException e) {
        must(false, m.getName() + Arrays.toString(with) + " throws nothing: " + e.getCause());
      }
    }
  }
  private static void ordinary(SafeVolumes x, Draws draws) {
    x.stuff(draws.from(1890, 1930), draws.from(1, 9));
    x.piece(draws.below(3), draws.below(100), 0, 50, draws.below(100), 99, draws.below(1 << x.count(1)), draws.below(10000));
    x.page(draws.below(x.count(4) + 1), draws.below(30), draws.below(3));
    x.truth(draws.below(30), draws.below(3));
    x.fact(draws.below(6), draws.below(30), draws.below(3));
    x.look(draws.below(x.count(6) + 1), draws.below(3), draws.below(9), draws.any() & Integer.MAX_VALUE);
    x.make(draws.below(x.count(7) + 1), draws.below(9), draws.below(30), draws.from(1, 60), draws.any() & Integer.MAX_VALUE);
  }
  private static int argument(Draws draws) {
    if (draws.once(8)) return draws.one(Integer.MIN_VALUE, -10000, -2, -1, 9999, 10000, 1 << 16, 1 << 30, Integer.MAX_VALUE - 1, Integer.MAX_VALUE);
    return draws.once(3) ? draws.below(1000) : draws.below(4);
  }

  /** All rows are made at first: what 512 calls make is next to nothing. */
  private static void memory() {
    com.sun.management.ThreadMXBean bean = (com.sun.management.ThreadMXBean) ManagementFactory.getThreadMXBean();
    long id = Thread.currentThread().getId();
    dearCalls(new SafeVolumes());
    long start = bean.getThreadAllocatedBytes(id);
    SafeVolumes x = new SafeVolumes();
    long made = bean.getThreadAllocatedBytes(id);
    dearCalls(x);
    long called = bean.getThreadAllocatedBytes(id);
    must(made - start < 200000, "a new object takes " + (made - start) + " bytes");
    must(called - made < 200000, "512 calls take " + (called - made) + " bytes");
  }
  private static final int[] YES = {0x79657320, 0x31303030, 0x2d617061, 0x72742a33, 0x30202020};
  private static void dearCalls(SafeVolumes x) {
    for (int i = 0; i < 8; i++) { x.feed(YES[0], YES[1], YES[2], YES[3], YES[4]); x.reader(); }
    for (int i = 0; i < 6; i++) { x.feed(0x66726f6d, 0x20303b66, 0x726f6d20, 0x313b7061, 0x63652032); x.maker(); }
    for (int i = 0; i < 90; i++) x.piece(0, i, i, i, i, i, 0, i);
    for (int i = 0; i < 50; i++) { x.truth(i, 1); x.fact(i % 6, i, 2); x.page(i % 9, i, 2); }
    for (int i = 0; i < 24; i++) {
      x.soonest(63, i, i + 1, 6); x.surest(9999, i, i + 1); x.look(0, i, i + 1, i); x.make(0, i, 0, 60, i);
      x.image(i % 4); x.back(i % 4); x.could(i); x.grows(); x.outrun(0, 0);
    }
  }
}
