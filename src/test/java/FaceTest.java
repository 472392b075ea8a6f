import java.nio.file.Files;
import java.nio.file.Path;
import java.util.ArrayList;
import java.util.List;
import java.util.regex.Matcher;
import java.util.regex.Pattern;

/**
 * The face of the class is that of ../shared/DOC.md: each line of "The public face" stands in the source as it stands there, in
 * its order, with nothing public beside it; and ahead of the calls stands what the document says that the interface says there.
 */
public final class FaceTest {
  private static final Path DOC = Path.of("../shared/DOC.md"), SOURCE = Path.of("src/main/java/OneStrokes.java");
  private static int wrong = 0;

  public static void main(String[] args) throws Exception {
    String doc = Files.readString(DOC), source = Files.readString(SOURCE);
    List<String> face = faceOf(doc), open = publicLinesOf(source);
    holds(face.size() == 33, "the document's face has " + face.size() + " lines");
    holds(face.equals(open), "the source has " + open + ", the document " + face);
    constants(face);
    headings(doc, source);
    System.out.println(wrong == 0 ? "the face is the document's" : wrong + " things are otherwise than in the document");
    if (wrong != 0) System.exit(1);
  }

  private static void holds(boolean so, String what) {
    if (!so) {
      wrong++;
      System.out.println(what);
    }
  }

  /** The lines of the face, without what ends or opens a body. */
  private static List<String> faceOf(String doc) {
    Matcher block = Pattern.compile("(?s)## The public face\\s+```java\\n(.*?)```").matcher(doc);
    return block.find() ? publicLinesOf(block.group(1)) : List.of();
  }

  private static List<String> publicLinesOf(String code) {
    List<String> lines = new ArrayList<>();
    for (String line : code.split("\n")) {
      if (line.matches(" *public\\b.*")) lines.add(line.strip().replaceAll(" *[;{]$", ""));
    }
    return lines;
  }

  private static void constants(List<String> face) throws Exception {
    int found = 0;
    for (String line : face) {
      if (!line.contains("static final int")) continue;
      Matcher constant = Pattern.compile("([A-Z]+) = (-?\\d+)").matcher(line);
      while (constant.find()) {
        int value = OneStrokes.class.getField(constant.group(1)).getInt(null);
        holds(value == Integer.parseInt(constant.group(2)), constant.group(1) + " is " + value);
        found++;
      }
    }
    holds(found == 5, found + " constants");
  }

  private static void headings(String doc, String source) {
    Matcher said = Pattern.compile("(?m)^Ahead of the calls (.*) the interface says: (---- [a-z ]+)\\.$").matcher(doc);
    int found = 0;
    while (said.find()) {
      found++;
      int from = source.indexOf("// " + said.group(2) + "\n");
      int until = source.indexOf("// ----", from + 1);
      String part = from < 0 ? "" : source.substring(from, until < 0 ? source.length() : until);
      List<String> due = new ArrayList<>(), there = new ArrayList<>();
      Matcher name = Pattern.compile("`(\\w+)`").matcher(said.group(1));
      while (name.find()) due.add(name.group(1));
      Matcher call = Pattern.compile("(?m)^ +public \\w+ (\\w+)\\(").matcher(part);
      while (call.find()) there.add(call.group(1));
      holds(due.equals(there), said.group(2) + " has " + there + ", due is " + due);
    }
    holds(found == 4, found + " headings in the document");
  }
}
