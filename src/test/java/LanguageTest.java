import java.lang.reflect.Constructor;
import java.lang.reflect.Field;
import java.lang.reflect.Method;
import java.lang.reflect.Modifier;
import java.nio.file.Files;
import java.nio.file.Path;
import java.util.ArrayList;
import java.util.List;
import java.util.Set;
import java.util.TreeSet;
import java.util.regex.Matcher;
import java.util.regex.Pattern;

/** The rules of LANGUAGE.md that can be looked at from outside: the face, the words of the source, its measures, the room. */
public final class LanguageTest {
  private static final Path SOURCE = Path.of("src/main/java/OneStrokes.java");
  private static final String[] FACE = {"feed(int)", "tell()", "fault()", "told(int)", "word(int,int)", "code(int)", "at(int,int)",
      "letter(int,int,int)", "face(int,int,int)", "rings(int,int)", "states(int,int)", "same(int,int)", "signs(int,int)", "draw(int)",
      "turn(int,int,boolean)", "twist(int,int)", "untwist(int,int)", "poke(int,int,int,int)", "unpoke(int,int,int)",
      "slide(int,int,int,int)", "smooth(int,int)", "sum(int,int)", "take(int)", "drift(int)", "undo(int)", "write(int,int)", "tear()",
      "seed(int)", "keep(int)", "goBack(int)"};
  private static final String[] BANNED = {"throw", "throws", "try", "catch", "finally", "synchronized", "assert", "volatile", "native",
      "import", "package", "protected", "new Object", "Object", "System", "Thread", "hashCode", "toString", "equals", "values"};
  private static int wrong = 0;

  public static void main(String[] args) throws Exception {
    Class<?> program = Class.forName("OneStrokes");
    face(program);
    inside(program);
    words(Files.readString(SOURCE));
    room();
    System.out.println(wrong == 0 ? "the rules are kept" : wrong + " rules are broken");
    if (wrong != 0) System.exit(1);
  }

  private static void holds(boolean so, String what) {
    if (!so) {
      wrong++;
      System.out.println(what);
    }
  }

  private static void face(Class<?> program) {
    Set<String> want = new TreeSet<>(List.of(FACE)), got = new TreeSet<>();
    for (Method m : program.getDeclaredMethods()) {
      boolean isPublic = Modifier.isPublic(m.getModifiers());
      holds(isPublic || Modifier.isPrivate(m.getModifiers()), "neither public nor private: " + m);
      if (isPublic) {
        List<String> types = new ArrayList<>();
        for (Class<?> type : m.getParameterTypes()) types.add(type.getName());
        got.add(m.getName() + "(" + String.join(",", types) + ")");
        holds(m.getReturnType() == (m.getName().equals("code") ? long.class : int.class), "answers another type: " + m);
      }
    }
    holds(want.equals(got), "the face is " + got);
    holds(program.getConstructors().length == 1 && program.getDeclaredConstructors().length == 1, "one public constructor");
    holds(Modifier.isFinal(program.getModifiers()) && Modifier.isPublic(program.getModifiers()), "public and final");
    Set<String> constants = new TreeSet<>();
    for (Field f : program.getDeclaredFields()) {
      if (Modifier.isPublic(f.getModifiers())) constants.add(f.getName());
      else holds(Modifier.isPrivate(f.getModifiers()), "field is neither public nor private: " + f);
      if (Modifier.isStatic(f.getModifiers())) holds(Modifier.isFinal(f.getModifiers()), "static but not final: " + f);
    }
    holds(constants.equals(new TreeSet<>(List.of("NONE", "UNKNOWN", "OUTSIDE", "NOT", "FULL"))), "constants " + constants);
  }

  private static void inside(Class<?> program) {
    Set<String> publicNames = new TreeSet<>();
    for (String call : FACE) publicNames.add(call.substring(0, call.indexOf('(')));
    Class<?>[] classes = program.getDeclaredClasses();
    holds(classes.length + 1 <= 12, "more than twelve classes");
    List<Class<?>> all = new ArrayList<>(List.of(classes));
    all.add(program);
    for (Class<?> c : all) {
      if (c != program) holds(Modifier.isStatic(c.getModifiers()) && !Modifier.isPublic(c.getModifiers()), "class inside: " + c);
      int fields = 0;
      for (Field f : c.getDeclaredFields()) if (!Modifier.isStatic(f.getModifiers())) fields++;
      holds(fields <= 20, "more than twenty fields: " + c);
      for (Method m : c.getDeclaredMethods()) {
        holds(m.getParameterCount() <= 7, "more than seven parameters: " + m);
        holds(c == program && Modifier.isPublic(m.getModifiers()) || !publicNames.contains(m.getName()), "bears a public name: " + m);
      }
      for (Constructor<?> k : c.getDeclaredConstructors()) holds(k.getParameterCount() <= 7, "more than seven parameters: " + k);
    }
  }

  private static void words(String source) {
    for (char s : source.toCharArray()) holds(s == '\n' || s >= 32 && s < 127, "sign " + (int) s);
    String code = source.replaceAll("(?s)/\\*.*?\\*/", "").replaceAll("//[^\n]*", "");
    holds(!code.contains("->") && !code.contains("::"), "a lambda or a method reference");
    holds(!code.contains("\""), "a text: this class needs none");
    for (String word : BANNED) holds(!Pattern.compile("\\b" + word + "\\b").matcher(code).find(), "the word " + word);
    holds(!Pattern.compile("static\\s*\\{").matcher(code).find(), "a static initialiser");
    Matcher loops = Pattern.compile("\\bwhile\\b|for \\(;;").matcher(code);
    holds(!loops.find(), "a loop without a counter");
    int start = -1, line = 0;
    for (String text : source.split("\n")) {
      line++;
      if (text.matches(" {4}( {4})?[a-zA-Z].*\\) \\{") && !text.contains(" class ")) start = line;
      if (text.matches(" {4}( {4})?\\}") && start > 0) {
        holds(line - start < 60, "a method of " + (line - start + 1) + " lines ends at line " + line);
        start = -1;
      }
    }
  }

  /** What 512 calls make, in bytes; the room has 7.3 million elements, and a run may make several objects. */
  private static void room() {
    com.sun.management.ThreadMXBean bean = (com.sun.management.ThreadMXBean) java.lang.management.ManagementFactory.getThreadMXBean();
    long id = Thread.currentThread().getId();
    long before = bean.getThreadAllocatedBytes(id);
    OneStrokes x = new OneStrokes();
    for (int i = 0; i < 170; i++) {
      x.drift(6);
      x.told(1);
      x.undo(6);
    }
    long drifts = bean.getThreadAllocatedBytes(id) - before;
    holds(drifts < 2_000_000, "drifts make " + drifts + " bytes");
    before = bean.getThreadAllocatedBytes(id);
    OneStrokes y = new OneStrokes();
    for (char s : "abcdefghabcdefgh".toCharArray()) y.feed(s);
    y.tell();
    for (int i = 0; i < 490; i++) y.signs(0, i & 255);
    long signs = bean.getThreadAllocatedBytes(id) - before;
    holds(signs < 2_000_000, "signs make " + signs + " bytes");
    System.out.println("made: " + drifts + " bytes by drifts, " + signs + " bytes by signs");
  }
}
