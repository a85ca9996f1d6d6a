import java.lang.reflect.Constructor;
import java.lang.reflect.Field;
import java.lang.reflect.Method;
import java.lang.reflect.Modifier;
import java.nio.file.Files;
import java.nio.file.Path;
import java.util.Set;
import java.util.TreeSet;
import java.util.regex.Pattern;

/** The public face, and those rules of LANGUAGE.md that can be seen from outside. */
public final class FaceTest {
  private static final Check C = new Check();

  private static final Set<String> METHODS = Set.of(
    "int anew(int)", "int range(int,int,int)", "int drop(int)", "int moves(int,int,int)", "int kind(int,int)",
    "int rank(int,int)", "int puts(int,int)", "int takes(int,int)", "int joins(int)", "int splits(int)",
    "int undo()", "int of(int,int)", "int over(int)", "int section(int,int)", "int stack(int,int)",
    "int least()", "int ways()", "int plain()", "int free()", "int without(int)", "int nodes()",
    "int node(int,int)", "int all(int)", "int draw(int,int)", "int told(int)", "long digest()");

  private static final String[] BANNED = {"throw", "throws", "try", "catch", "finally", "synchronized", "assert",
    "import", "package", "native", "volatile", "transient", "instanceof", "System", "Random", "Thread"};

  public static void main(String[] args) throws Exception {
    methods();
    fields();
    constructors();
    classes();
    words();
    room();
    C.end();
  }

  private static String told(Method m) {
    StringBuilder text = new StringBuilder(m.getReturnType() + " " + m.getName() + "(");
    for (Class<?> p : m.getParameterTypes()) text.append(text.charAt(text.length() - 1) == '(' ? "" : ",").append(p);
    return text.append(")").toString();
  }

  private static void methods() {
    C.about("methods");
    Set<String> found = new TreeSet<>();
    Set<String> names = new TreeSet<>();
    for (String m : METHODS) names.add(m.substring(m.indexOf(' ') + 1, m.indexOf('(')));
    for (Method m : NestRanges.class.getDeclaredMethods()) {
      if (Modifier.isPrivate(m.getModifiers())) {
        C.holds("the private method " + m.getName() + " has a name of its own", !names.contains(m.getName()));
      } else {
        found.add(told(m));
        C.holds(m.getName() + " is public and not static", (m.getModifiers() & ~Modifier.FINAL) == Modifier.PUBLIC);
      }
    }
    C.holds("the methods are those of the document, not " + found, found.equals(METHODS));
  }

  private static void fields() throws Exception {
    C.about("fields");
    Set<String> found = new TreeSet<>();
    for (Field f : NestRanges.class.getDeclaredFields()) {
      if (!Modifier.isPrivate(f.getModifiers())) found.add(f.getName());
      if (Modifier.isStatic(f.getModifiers())) C.holds(f.getName() + " is final", Modifier.isFinal(f.getModifiers()));
    }
    C.holds("the constants are those of the document", found.equals(Set.of("NONE", "BAD", "NO", "FULL")));
    C.due("NONE", NestRanges.class.getField("NONE").getInt(null), -1);
    C.due("BAD", NestRanges.class.getField("BAD").getInt(null), -2);
    C.due("NO", NestRanges.class.getField("NO").getInt(null), -3);
    C.due("FULL", NestRanges.class.getField("FULL").getInt(null), -4);
  }

  private static void constructors() {
    C.about("constructors");
    Constructor<?>[] all = NestRanges.class.getDeclaredConstructors();
    C.due("how many", all.length, 1);
    C.due("its parameters", all[0].getParameterCount(), 0);
    C.holds("it is public", Modifier.isPublic(all[0].getModifiers()));
    C.holds("the class is final", Modifier.isFinal(NestRanges.class.getModifiers()));
  }

  private static void classes() {
    C.about("classes inside");
    Class<?>[] all = NestRanges.class.getDeclaredClasses();
    C.holds("at most twelve", all.length <= 12);
    for (Class<?> c : all) {
      C.holds(c + " is static", Modifier.isStatic(c.getModifiers()));
      C.holds(c + " is not public", (c.getModifiers() & (Modifier.PUBLIC | Modifier.PROTECTED)) == 0);
      int own = 0;
      for (Field f : c.getDeclaredFields()) if (!Modifier.isStatic(f.getModifiers())) own++;
      C.holds(c + " has at most twenty fields", own <= 20);
      for (Method m : c.getDeclaredMethods()) {
        C.holds(m + " takes at most seven", m.getParameterCount() <= 7);
      }
    }
  }

  private static void words() throws Exception {
    C.about("words");
    String source = Files.readString(Path.of("src/main/java/NestRanges.java"));
    C.holds("signs are plain", source.chars().allMatch(c -> c == '\n' || (c >= 32 && c < 127)));
    String code = source.replaceAll("(?s)/\\*.*?\\*/", " ").replaceAll("//[^\n]*", " ");
    for (String word : BANNED) {
      C.holds("no " + word, !Pattern.compile("\\b" + word + "\\b").matcher(code).find());
    }
    C.holds("no lambda or method reference", !code.contains("->") && !code.contains("::"));
  }

  /** One object and its 512 dearest calls take a small part of the room. */
  private static void room() {
    C.about("room");
    var bean = (com.sun.management.ThreadMXBean) java.lang.management.ManagementFactory.getThreadMXBean();
    long thread = Thread.currentThread().getId();
    run();
    long before = bean.getThreadAllocatedBytes(thread);
    run();
    long bytes = bean.getThreadAllocatedBytes(thread) - before;
    C.holds("an object and 512 calls take 64 KiB at most, not " + bytes, bytes <= 65536);
  }

  private static void run() {
    NestRanges x = new NestRanges();
    for (int i = 0; i < 128; i++) {
      x.draw(i, 8);
      x.without(i & 1);
      x.digest();
      x.splits(i & 3);
    }
  }
}
