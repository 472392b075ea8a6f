import java.util.ArrayDeque;
import java.util.ArrayList;
import java.util.Arrays;
import java.util.Collections;
import java.util.Deque;
import java.util.HashSet;
import java.util.List;
import java.util.Random;
import java.util.Set;
import java.util.TreeSet;

/**
 * Long runs of calls, each answer beside that of a model which finds it another way: faces by walking around them,
 * rings by walking along them, trees by a determinant, the third law by trying all sides.
 */
public final class ModelTest {
  private static final int RUNS = 400, CALLS = 500;
  /** Rows of many letters that can be drawn, or fail but by the last law: draws alone seldom find them. */
  private static final String[] SPECIAL = {"abcabcdefdef", "abcdefgabcdefg", "abccbdeffedghhga", "abcdefghfedcbahg",
      "afbecgdaebfdgc", "acbfcedgebfagd", "afbecadcegfbgd", "afbachdgebfdgehc", "agbfcadhebfcgehd", "afbgcbdaehfcgdhe",
      "adbhcbdgeafegchf", "abcdeafcbedf", "aabcdefbgdcfeg", "aebgchdceafbgfhd", "afbgchdaecfbgdhe", "aabbcdecdfgefg"};
  private static int wrong = 0;

  public static void main(String[] args) {
    for (int run = 0; run < RUNS && wrong < 20; run++) play(run);
    for (int n = 0; n <= 5; n++) askAllRows("", n);
    for (String row : SPECIAL) askAll(row);
    System.out.println(wrong == 0 ? "the model agrees" : "the model disagrees " + wrong + " times");
    if (wrong != 0) System.exit(1);
  }

  private static void play(int run) {
    Random random = new Random(run);
    OneStrokes program = new OneStrokes();
    Model model = new Model();
    List<String> log = new ArrayList<>();
    boolean bold = run % 2 == 0;
    for (int i = 0; i < CALLS; i++) {
      Call call = Call.choose(random, model, bold);
      long got = call.on(program);
      long want = call.on(model);
      log.add(call + " = " + got);
      if (got != want) {
        wrong++;
        System.out.println("run " + run + ", call " + i + ": " + call + " answered " + got + ", the model " + want);
        System.out.println("  after " + log.subList(Math.max(0, log.size() - 12), log.size()));
        return;
      }
    }
  }

  private static void askAllRows(String row, int n) {
    if (wrong >= 20) return;
    if (row.length() == 2 * n) {
      askAll(row);
      return;
    }
    int unlike = (int) row.chars().distinct().count();
    for (char s = 'a'; s < 'a' + Math.min(n, unlike + 1); s++) {
      char letter = s;
      if (row.chars().filter(k -> k == letter).count() < 2) askAllRows(row + letter, n);
    }
  }

  /** Everything that can be asked of a row, with its first signs and with those it is drawn by. */
  private static void askAll(String row) {
    OneStrokes x = new OneStrokes();
    Model m = new Model();
    for (char s : row.toCharArray()) { x.feed(s); m.feed(s); }
    same(row, new Call("tell", 0, 0, 0, 0), x, m);
    for (int round = 0; round < 2; round++) {
      for (int what = 0; what <= 14; what++) same(row, new Call("word", 0, what, 0, 0), x, m);
      same(row, new Call("code", 0, 0, 0, 0), x, m);
      for (int k = 1; k <= 9; k++) same(row, new Call("states", 0, k, 0, 0), x, m);
      for (int c = 0; c < row.length() / 2; c++) for (int what = 0; what <= 7; what++) same(row, new Call("letter", 0, c, what, 0), x, m);
      for (int f = 0; f < row.length() / 2 + 3; f++) for (int what = 0; what <= 3; what++) same(row, new Call("face", 0, f, what, 0), x, m);
      if (round == 0) same(row, new Call("draw", 0, 0, 0, 0), x, m);
    }
  }

  private static void same(String row, Call call, OneStrokes x, Model m) {
    long got = call.on(x), want = call.on(m);
    if (got != want) {
      wrong++;
      System.out.println(row + ": " + call + " answered " + got + ", the model " + want);
    }
  }

  private record Call(String name, int a, int b, int c, int d) {
    private static final String[] ASKED = {"told", "word", "word", "word", "code", "at", "letter", "letter", "face", "face",
        "rings", "states", "same", "fault"};
    private static final String[] DONE = {"signs", "draw", "turn", "twist", "untwist", "poke", "unpoke", "slide", "smooth",
        "sum", "take", "drift", "undo", "write", "tear", "seed", "keep", "goBack", "type", "write"};

    static Call choose(Random r, Model m, boolean bold) {
      String name = r.nextInt(3) == 0 ? DONE[r.nextInt(DONE.length)] : ASKED[r.nextInt(ASKED.length)];
      if (name.equals("take") && r.nextInt(3) > 0) name = "draw";
      if (name.equals("tear") && r.nextInt(5) > 0) name = "write";
      int t = near(r, m.shelf.size(), bold);
      Model.W w = t >= 0 && t < m.shelf.size() ? m.shelf.get(t) : new Model.W("", 0);
      int n = w.n();
      switch (name) {
        case "told": return new Call(name, near(r, 7, bold), 0, 0, 0);
        case "word": return new Call(name, t, near(r, 15, bold), 0, 0);
        case "letter": return new Call(name, t, near(r, n, bold), near(r, 8, bold), 0);
        case "face": return new Call(name, t, near(r, n + 2, bold), near(r, 4, bold), 0);
        case "rings": case "signs": return new Call(name, t, near(r, 1 << n, bold), 0, 0);
        case "states": return new Call(name, t, near(r, 10, bold), 0, 0);
        case "same": case "sum": return new Call(name, t, near(r, m.shelf.size(), bold), 0, 0);
        case "at": return new Call(name, t, near(r, 2 * n, bold), 0, 0);
        case "turn": return new Call(name, t, near(r, 2 * n, bold), r.nextInt(2), 0);
        case "twist": return new Call(name, t, near(r, Math.max(1, 2 * n), bold), 0, 0);
        case "poke": return new Call(name, t, near(r, 2 * n, bold), near(r, 2 * n, bold), near(r, 2, bold));
        case "untwist": case "smooth": return new Call(name, t, near(r, n, bold), 0, 0);
        case "unpoke": return new Call(name, t, near(r, n, bold), near(r, n, bold), 0);
        case "slide": return new Call(name, t, near(r, n, bold), near(r, n, bold), near(r, n, bold));
        case "drift": return new Call(name, near(r, 4, bold), 0, 0, 0);
        case "undo": return new Call(name, r.nextInt(4) == 0 ? near(r, 17, bold) : 1 + r.nextInt(3), 0, 0, 0);
        case "seed": return new Call(name, r.nextInt(), 0, 0, 0);
        case "keep": case "goBack": return new Call(name, near(r, 2, bold), 0, 0, 0);
        case "write": return new Call(name, t, r.nextInt(4) == 0 ? r.nextInt(200) - 5 : m.states(t, 1), 0, 0);
        case "type": return new Call(r.nextInt(4) == 0 ? "feed" : "typed", r.nextInt(4) == 0 ? r.nextInt(270) - 5 : 97 + r.nextInt(10), r.nextInt(), 0, 0);
        default: return new Call(name, t, 0, 0, 0);
      }
    }

    private static int near(Random r, int bound, boolean bold) {
      int slack = bold ? 1 : 0;
      if (r.nextInt(60) == 0) return r.nextInt();
      return bound + 2 * slack <= 0 ? 0 : r.nextInt(bound + 2 * slack) - slack;
    }

    /** Letters to be typed for one call of the run: most give a word. */
    private int[] typed() {
      Random r = new Random(b);
      int n = r.nextInt(9);
      List<Integer> signs = new ArrayList<>();
      for (int i = 0; i < n; i++) { signs.add(97 + i); signs.add(97 + i); }
      Collections.shuffle(signs, r);
      if (r.nextInt(4) == 0) signs.add(r.nextInt(signs.size() + 1), 97 + r.nextInt(14));
      if (r.nextInt(8) == 0 && !signs.isEmpty()) signs.set(r.nextInt(signs.size()), r.nextInt(256));
      int[] row = new int[signs.size()];
      for (int i = 0; i < row.length; i++) row[i] = signs.get(i);
      return row;
    }

    long on(OneStrokes x) {
      switch (name) {
        case "feed": return x.feed(a);
        case "typed": { long all = 0; for (int s : typed()) all = all * 31 + x.feed(s); return all * 31 + x.tell(); }
        case "tell": return x.tell();
        case "fault": return x.fault();
        case "told": return x.told(a);
        case "word": return x.word(a, b);
        case "code": return x.code(a);
        case "at": return x.at(a, b);
        case "letter": return x.letter(a, b, c);
        case "face": return x.face(a, b, c);
        case "rings": return x.rings(a, b);
        case "states": return x.states(a, b);
        case "same": return x.same(a, b);
        case "signs": return x.signs(a, b);
        case "draw": return x.draw(a);
        case "turn": return x.turn(a, b, c == 1);
        case "twist": return x.twist(a, b);
        case "untwist": return x.untwist(a, b);
        case "poke": return x.poke(a, b, c, d);
        case "unpoke": return x.unpoke(a, b, c);
        case "slide": return x.slide(a, b, c, d);
        case "smooth": return x.smooth(a, b);
        case "sum": return x.sum(a, b);
        case "take": return x.take(a);
        case "drift": return x.drift(a);
        case "undo": return x.undo(a);
        case "write": return x.write(a, b);
        case "tear": return x.tear();
        case "seed": return x.seed(a);
        case "keep": return x.keep(a);
        case "goBack": return x.goBack(a);
        default: throw new IllegalStateException(name);
      }
    }

    long on(Model x) {
      switch (name) {
        case "feed": return x.feed(a);
        case "typed": { long all = 0; for (int s : typed()) all = all * 31 + x.feed(s); return all * 31 + x.tell(); }
        case "tell": return x.tell();
        case "fault": return x.fault;
        case "told": return x.told(a);
        case "word": return x.word(a, b);
        case "code": return x.code(a);
        case "at": return x.at(a, b);
        case "letter": return x.letter(a, b, c);
        case "face": return x.face(a, b, c);
        case "rings": return x.rings(a, b);
        case "states": return x.states(a, b);
        case "same": return x.same(a, b);
        case "signs": return x.signs(a, b);
        case "draw": return x.draw(a);
        case "turn": return x.turn(a, b, c == 1);
        case "twist": return x.twist(a, b);
        case "untwist": return x.untwist(a, b);
        case "poke": return x.poke(a, b, c, d);
        case "unpoke": return x.unpoke(a, b, c);
        case "slide": return x.slide(a, b, c, d);
        case "smooth": return x.smooth(a, b);
        case "sum": return x.sum(a, b);
        case "take": return x.take(a);
        case "drift": return x.drift(a);
        case "undo": return x.undo(a);
        case "write": return x.write(a, b);
        case "tear": return x.tear();
        case "seed": return x.seed(a);
        case "keep": return x.keep(a);
        case "goBack": return x.goBack(a);
        default: throw new IllegalStateException(name);
      }
    }
  }

  private static final class Model {
    static final int UNKNOWN = -1000000001, OUTSIDE = -1000000002, NOT = -1000000003, FULL = -1000000004;

    /** A word: its row in the figures 0 to 7, its signs. */
    record W(String row, int signs) {
      int n() { return row.length() / 2; }
      int p(int c) { return row.indexOf('0' + c); }
      int q(int c) { return row.lastIndexOf('0' + c); }
      int place(int c, int which) { return which == 0 ? p(c) : q(c); }
    }

    List<W> shelf = new ArrayList<>();
    List<List<W>> ahead = new ArrayList<>();
    List<Integer> typed = new ArrayList<>();
    List<int[]> book = new ArrayList<>();
    List<List<W>> imageShelves = new ArrayList<>(Arrays.asList(null, null));
    long[] imageSeeds = new long[2];
    long seed = 0;
    int fault = -1;

    boolean no(int t) { return t < 0 || t >= shelf.size(); }
    boolean noLetter(int t, int c) { return no(t) || c < 0 || c >= shelf.get(t).n(); }
    boolean noStep(int t, int s) { return no(t) || s < 0 || s >= Math.max(1, shelf.get(t).row.length()); }
    boolean noSet(int t, int set) { return no(t) || (set & ~((1 << shelf.get(t).n()) - 1)) != 0; }

    void remember() {
      ahead.add(new ArrayList<>(shelf));
      if (ahead.size() > 16) ahead.remove(0);
    }

    void anew(int t, String row) {
      remember();
      shelf.set(t, new W(numbered(row), 0));
    }

    static String numbered(String row) {
      StringBuilder met = new StringBuilder(), made = new StringBuilder();
      for (char s : row.toCharArray()) {
        if (met.indexOf("" + s) < 0) met.append(s);
        made.append(met.indexOf("" + s));
      }
      return made.toString();
    }

    int feed(int s) {
      if (s < 0 || s > 255) return OUTSIDE;
      if (typed.size() == 20) return FULL;
      typed.add(s);
      return typed.size();
    }

    int tell() {
      if (shelf.size() == 6) return FULL;
      List<Integer> text = typed;
      typed = new ArrayList<>();
      Set<Integer> unlike = new TreeSet<>();
      for (int i = 0; i < text.size(); i++) {
        int s = text.get(i);
        fault = i;
        if (s < 97 || s > 122) return -11;
        if (Collections.frequency(text.subList(0, i), s) == 2) return -12;
        unlike.add(s);
        if (unlike.size() == 9) return -13;
      }
      fault = text.size();
      for (int s : unlike) if (Collections.frequency(text, s) == 1) return -14;
      fault = -1;
      StringBuilder row = new StringBuilder();
      for (int s : text) row.append((char) s);
      remember();
      shelf.add(new W(numbered(row.toString()), 0));
      return shelf.size() - 1;
    }

    int told(int what) {
      if (what == 0) return shelf.size();
      if (what == 1) {
        Set<String> kinds = new HashSet<>();
        for (int t = 0; t < shelf.size(); t++) kinds.add(shelf.get(t).n() + " " + code(t));
        return kinds.size();
      }
      if (what == 2) return typed.size();
      if (what == 3) return book.size();
      if (what == 4) {
        for (int i = 0; i < book.size(); i++) if (no(book.get(i)[0]) || states(book.get(i)[0], 1) != book.get(i)[1]) return i;
        return -1;
      }
      if (what == 5) return ahead.size();
      return what == 6 ? (int) seed : OUTSIDE;
    }

    int word(int t, int what) {
      if (no(t)) return UNKNOWN;
      W w = shelf.get(t);
      switch (what) {
        case 0: return w.n();
        case 1: return parts(w);
        case 2: return broken(w);
        case 3: return w.signs;
        case 4: return faces(w).size();
        case 5: return (w.n() + 2 - faces(w).size()) / 2;
        case 6: { List<Integer> all = plane(w); return all.isEmpty() ? -1 : all.get(0); }
        case 7: return plane(w).size();
        case 8: return rings(w, 0);
        case 9: return trees(w, true);
        case 10: return trees(w, false);
        case 11: { int k = 0; for (String s : turned(w)) if (s.equals(w.row)) k++; return k; }
        case 12: { int set = 0; for (int c = 0; c < w.n(); c++) if (beside(w, w.p(c), w.q(c))) set += 1 << c; return set; }
        case 13: case 14: { int k = 0; for (List<Integer> f : faces(w)) if (f.size() == what - 11) k++; return k; }
        default: return OUTSIDE;
      }
    }

    static boolean between(W w, int c, int d) {
      String inner = w.row.substring(w.p(c) + 1, w.q(c));
      return inner.chars().filter(s -> s == '0' + d).count() == 1;
    }

    static int parts(W w) {
      Set<Integer> left = new TreeSet<>();
      for (int c = 0; c < w.n(); c++) left.add(c);
      int parts = 0;
      while (!left.isEmpty()) {
        parts++;
        Deque<Integer> todo = new ArrayDeque<>();
        int start = left.iterator().next();
        todo.add(start);
        left.remove(start);
        while (!todo.isEmpty()) {
          int c = todo.poll();
          for (int d = 0; d < w.n(); d++) if (left.contains(d) && between(w, c, d)) { left.remove(d); todo.add(d); }
        }
      }
      return parts;
    }

    static int both(W w, int c, int d) {
      int k = 0;
      for (int e = 0; e < w.n(); e++) if (between(w, e, c) && between(w, e, d)) k++;
      return k;
    }

    static int broken(W w) {
      int n = w.n();
      for (int c = 0; c < n; c++) if (both(w, c, c) % 2 != 0) return 1;
      for (int c = 0; c < n; c++) for (int d = 0; d < n; d++) if (c != d && !between(w, c, d) && both(w, c, d) % 2 != 0) return 2;
      for (int sides = 0; sides < 1 << n; sides++) {
        boolean good = true;
        for (int c = 0; c < n && good; c++) for (int d = 0; d < n && good; d++)
          if (c != d && between(w, c, d)) good = ((sides >> c & 1) != (sides >> d & 1)) == (both(w, c, d) % 2 == 0);
        if (good) return 0;
      }
      return 3;
    }

    /** The ends of a letter in their round: step s that leaves as s + 1, that comes as - s - 1. */
    static int[] ends(W w, int c) {
      int all = w.row.length(), p = w.p(c), q = w.q(c);
      int outP = p + 1, inP = -((p + all - 1) % all) - 1, outQ = q + 1, inQ = -((q + all - 1) % all) - 1;
      return (w.signs >> c & 1) == 0 ? new int[] {outP, outQ, inP, inQ} : new int[] {outP, inQ, inP, outQ};
    }

    /** Corner 4 c + k of which the step (leaving: s + 1, coming: - s - 1) is end k. */
    static int endAt(W w, int end) {
      for (int c = 0; c < w.n(); c++) for (int k = 0; k < 4; k++) if (ends(w, c)[k] == end) return 4 * c + k;
      throw new IllegalStateException();
    }

    static int ahead(int corner) { return corner / 4 * 4 + (corner + 3) % 4; }

    /** Faces as lists of corners, found by walking with the face on the left hand. */
    static List<List<Integer>> faces(W w) {
      List<List<Integer>> faces = new ArrayList<>();
      if (w.n() == 0) { faces.add(List.of()); faces.add(List.of()); return faces; }
      Set<Integer> met = new HashSet<>();
      int[] endAtCorner = new int[4 * w.n()];
      int[] whereEnd = new int[2 * w.row.length() + 1];
      for (int c = 0; c < w.n(); c++) {
        int[] e = ends(w, c);
        for (int k = 0; k < 4; k++) { endAtCorner[4 * c + k] = e[k]; whereEnd[e[k] + w.row.length()] = 4 * c + k; }
      }
      for (int corner = 0; corner < 4 * w.n(); corner++) {
        if (met.contains(corner)) continue;
        List<Integer> face = new ArrayList<>();
        int at = corner;
        while (met.add(at)) {
          face.add(at);
          // Out along end k, whose left is corner k; it comes as the other end j of the step, and there the left is ahead of j.
          at = ahead(whereEnd[-endAtCorner[at] + w.row.length()]);
        }
        faces.add(face);
      }
      return faces;
    }

    static int faceOf(List<List<Integer>> faces, int corner) {
      for (int f = 0; f < faces.size(); f++) if (faces.get(f).contains(corner)) return f;
      throw new IllegalStateException();
    }

    static boolean isPlane(W w) { return faces(w).size() == w.n() + 2; }

    static List<Integer> plane(W w) {
      List<Integer> all = new ArrayList<>();
      for (int set = 0; set < 1 << w.n(); set++) if (isPlane(new W(w.row, set))) all.add(set);
      return all;
    }

    static int[][] sides(W w) {
      if (w.n() == 0) return new int[][] {{0, 1}};
      List<List<Integer>> faces = faces(w);
      int[][] sides = new int[w.row.length()][];
      for (int s = 0; s < sides.length; s++) {
        int k = endAt(w, s + 1);
        sides[s] = new int[] {faceOf(faces, k), faceOf(faces, ahead(k))};
      }
      return sides;
    }

    static Integer[] index(W w) {
      Integer[] index = new Integer[w.n() + 2];
      index[0] = 0;
      int[][] sides = sides(w);
      for (boolean more = true; more; ) {
        more = false;
        for (int[] s : sides) {
          if (index[s[0]] != null && index[s[1]] == null) { index[s[1]] = index[s[0]] - 1; more = true; }
          if (index[s[1]] != null && index[s[0]] == null) { index[s[0]] = index[s[1]] + 1; more = true; }
        }
      }
      for (int[] s : sides) if (index[s[0]] != index[s[1]] + 1) throw new IllegalStateException("index");
      return index;
    }

    static boolean dark(W w, int f) { return (index(w)[f] - index(w)[sides(w)[0][0]]) % 2 == 0; }

    static int middle(W w, int c) {
      int sum = 0;
      for (int k = 0; k < 4; k++) sum += index(w)[faceOf(faces(w), 4 * c + k)];
      if (sum % 4 != 0) throw new IllegalStateException("middle");
      return sum / 4;
    }

    /** By the determinant of the matrix that tells how the faces of the kind are joined, less its first row and column. */
    static int trees(W w, boolean dark) {
      if (!isPlane(w)) return -1;
      List<Integer> kind = new ArrayList<>();
      for (int f = 0; f < w.n() + 2; f++) if (dark(w, f) == dark) kind.add(f);
      double[][] m = new double[kind.size()][kind.size()];
      for (int c = 0; c < w.n(); c++) {
        List<Integer> two = new ArrayList<>();
        for (int k = 0; k < 4; k++) { int f = kind.indexOf(faceOf(faces(w), 4 * c + k)); if (f >= 0) two.add(f); }
        if (two.size() != 2) throw new IllegalStateException("corners");
        int a = two.get(0), b = two.get(1);
        if (a != b) { m[a][a]++; m[b][b]++; m[a][b]--; m[b][a]--; }
      }
      double det = 1;
      for (int i = 1; i < m.length; i++) {
        int top = i;
        for (int r = i; r < m.length; r++) if (Math.abs(m[r][i]) > Math.abs(m[top][i])) top = r;
        double[] kept = m[i]; m[i] = m[top]; m[top] = kept;
        if (top != i) det = -det;
        if (m[i][i] == 0) return 0;
        det *= m[i][i];
        for (int r = i + 1; r < m.length; r++) for (int k = m.length - 1; k >= i; k--) m[r][k] -= m[i][k] * m[r][i] / m[i][i];
      }
      return (int) Math.round(det);
    }

    /** Walks along steps, on or back, until each has been walked. */
    static int rings(W w, int turned) {
      if (w.n() == 0) return 1;
      int all = w.row.length(), rings = 0;
      boolean[] met = new boolean[all];
      for (int s = 0; s < all; s++) {
        if (met[s]) continue;
        rings++;
        int step = s;
        boolean on = true;
        while (!met[step]) {
          met[step] = true;
          int place = on ? (step + 1) % all : step;
          int c = w.row.charAt(place) - '0';
          int twin = w.p(c) == place ? w.q(c) : w.p(c);
          boolean isTurned = (turned >> c & 1) == 1;
          // On: from coming to this place to leaving its twin; turned, to the one that comes there, walked back.
          if (on) { step = isTurned ? (twin + all - 1) % all : twin; on = !isTurned; }
          else { step = isTurned ? twin : (twin + all - 1) % all; on = isTurned; }
        }
      }
      return rings;
    }

    static List<String> turned(W w) {
      List<String> rows = new ArrayList<>();
      if (w.n() == 0) rows.add("");
      String back = new StringBuilder(w.row).reverse().toString();
      for (int i = 0; i < w.row.length(); i++) {
        rows.add(numbered(w.row.substring(i) + w.row.substring(0, i)));
        rows.add(numbered(back.substring(i) + back.substring(0, i)));
      }
      return rows;
    }

    long code(int t) {
      if (no(t)) return UNKNOWN;
      return Long.parseLong("0" + Collections.min(turned(shelf.get(t))), 8);
    }

    int at(int t, int i) {
      if (no(t)) return UNKNOWN;
      return i < 0 || i >= shelf.get(t).row.length() ? -1 : shelf.get(t).row.charAt(i) - '0';
    }

    int letter(int t, int c, int what) {
      if (noLetter(t, c)) return UNKNOWN;
      if (what < 0 || what > 7) return OUTSIDE;
      W w = shelf.get(t);
      if (what == 0) return w.p(c);
      if (what == 1) return w.q(c);
      if (what == 2) { int set = 0; for (int d = 0; d < w.n(); d++) if (d != c && between(w, c, d)) set |= 1 << d; return set; }
      if (what < 7) return faceOf(faces(w), 4 * c + what - 3);
      return isPlane(w) ? middle(w, c) + 100 : -1;
    }

    int face(int t, int f, int what) {
      if (no(t) || f < 0 || f >= faces(shelf.get(t)).size()) return UNKNOWN;
      if (what < 0 || what > 3) return OUTSIDE;
      W w = shelf.get(t);
      if (what == 0) return faces(w).get(f).size();
      if (!isPlane(w)) return -1;
      if (what == 1) return dark(w, f) ? 1 : 0;
      if (what == 2) return index(w)[f] + 100;
      int sum = 0;
      for (int i : index(w)) sum += i;
      for (int c = 0; c < w.n(); c++) sum -= middle(w, c);
      return sum - 2 * index(w)[f] + 100;
    }

    int rings(int t, int set) { return noSet(t, set) ? UNKNOWN : rings(shelf.get(t), set); }

    int states(int t, int k) {
      if (no(t)) return UNKNOWN;
      if (k < 1 || k > 9) return OUTSIDE;
      int found = 0;
      for (int set = 0; set < 1 << shelf.get(t).n(); set++) if (rings(shelf.get(t), set) == k) found++;
      return found;
    }

    int same(int t, int u) {
      if (no(t) || no(u)) return UNKNOWN;
      return turned(shelf.get(t)).contains(shelf.get(u).row) ? 1 : 0;
    }

    int signs(int t, int set) {
      if (noSet(t, set)) return UNKNOWN;
      remember();
      shelf.set(t, new W(shelf.get(t).row, set));
      return faces(shelf.get(t)).size();
    }

    int draw(int t) {
      if (no(t)) return UNKNOWN;
      if (plane(shelf.get(t)).isEmpty()) return NOT;
      int set = plane(shelf.get(t)).get(0);
      signs(t, set);
      return set;
    }

    int turn(int t, int i, boolean back) {
      if (at(t, i) < 0) return UNKNOWN;
      String row = shelf.get(t).row;
      String on = row.substring(i) + row.substring(0, i);
      anew(t, back ? on.charAt(0) + new StringBuilder(on.substring(1)).reverse().toString() : on);
      return word(t, 11);
    }

    int twist(int t, int s) {
      if (noStep(t, s)) return UNKNOWN;
      if (shelf.get(t).n() == 8) return FULL;
      StringBuilder row = new StringBuilder(shelf.get(t).row);
      row.insert(row.length() == 0 ? 0 : s + 1, "xx");
      anew(t, row.toString());
      return shelf.get(t).n();
    }

    static boolean beside(W w, int i, int j) {
      int apart = Math.abs(i - j);
      return apart == 1 || apart == w.row.length() - 1;
    }

    int untwist(int t, int c) {
      if (noLetter(t, c)) return UNKNOWN;
      W w = shelf.get(t);
      if (!beside(w, w.p(c), w.q(c))) return NOT;
      anew(t, w.row.replace("" + c, ""));
      return w.n() - 1;
    }

    int poke(int t, int s, int o, int way) {
      if (noStep(t, s) || noStep(t, o) || s == o) return UNKNOWN;
      if (way != 0 && way != 1) return OUTSIDE;
      if (shelf.get(t).n() > 6) return FULL;
      StringBuilder row = new StringBuilder(shelf.get(t).row);
      String more = way == 0 ? "xy" : "yx";
      row.insert(Math.max(s, o) + 1, s > o ? "xy" : more);
      row.insert(Math.min(s, o) + 1, s > o ? more : "xy");
      anew(t, row.toString());
      return shelf.get(t).n();
    }

    int unpoke(int t, int c, int d) {
      if (noLetter(t, c) || noLetter(t, d) || c == d) return UNKNOWN;
      W w = shelf.get(t);
      boolean straight = beside(w, w.p(c), w.p(d)) && beside(w, w.q(c), w.q(d));
      boolean crossed = beside(w, w.p(c), w.q(d)) && beside(w, w.q(c), w.p(d));
      if (!straight && !crossed) return NOT;
      anew(t, w.row.replace("" + c, "").replace("" + d, ""));
      return w.n() - 2;
    }

    int slide(int t, int c, int d, int e) {
      if (noLetter(t, c) || noLetter(t, d) || noLetter(t, e) || Set.copyOf(Arrays.asList(c, d, e)).size() < 3) return UNKNOWN;
      W w = shelf.get(t);
      for (int x = 0; x < 2; x++) for (int y = 0; y < 2; y++) for (int z = 0; z < 2; z++) {
        int[][] pairs = {{w.place(c, x), w.place(d, y)}, {w.place(d, 1 - y), w.place(e, z)}, {w.place(e, 1 - z), w.place(c, 1 - x)}};
        boolean all = true;
        for (int[] p : pairs) all &= beside(w, p[0], p[1]);
        if (!all) continue;
        char[] row = w.row.toCharArray();
        for (int[] p : pairs) { row[p[0]] = w.row.charAt(p[1]); row[p[1]] = w.row.charAt(p[0]); }
        anew(t, new String(row));
        return 4 * x + 2 * y + z;
      }
      return NOT;
    }

    int smooth(int t, int c) {
      if (noLetter(t, c)) return UNKNOWN;
      W w = shelf.get(t);
      String inner = new StringBuilder(w.row.substring(w.p(c) + 1, w.q(c))).reverse().toString();
      anew(t, w.row.substring(0, w.p(c)) + inner + w.row.substring(w.q(c) + 1));
      return w.n() - 1;
    }

    int sum(int t, int u) {
      if (no(t) || no(u)) return UNKNOWN;
      if (shelf.size() == 6 || shelf.get(t).n() + shelf.get(u).n() > 8) return FULL;
      remember();
      StringBuilder more = new StringBuilder();
      for (char s : shelf.get(u).row.toCharArray()) more.append((char) (s - '0' + 'a'));
      shelf.add(new W(numbered(shelf.get(t).row + more), 0));
      return shelf.size() - 1;
    }

    int take(int t) {
      if (no(t)) return UNKNOWN;
      remember();
      shelf.remove(t);
      return shelf.size();
    }

    int next(int n) {
      seed = (seed * 1103515245L + 12345L) % (1L << 31);
      return (int) (seed / 65536 % n);
    }

    int drift(int n) {
      if (n < 1 || n > 6) return OUTSIDE;
      for (int i = 0; i < n && shelf.size() < 6; i++) {
        int letters = next(7) + 2;
        char[] row = new char[2 * letters];
        List<Integer> empty = new ArrayList<>();
        for (int k = 0; k < row.length; k++) empty.add(k);
        for (int c = 0; c < letters; c++) for (int k = 0; k < 2; k++) row[empty.remove(next(empty.size()))] = (char) ('a' + c);
        remember();
        shelf.add(new W(numbered(new String(row)), 0));
      }
      return shelf.size();
    }

    int undo(int n) {
      if (n < 1 || n > 16) return OUTSIDE;
      if (n > ahead.size()) return NOT;
      for (int i = 0; i < n; i++) shelf = ahead.remove(ahead.size() - 1);
      return shelf.size();
    }

    int write(int t, int v) {
      if (no(t)) return UNKNOWN;
      if (book.size() == 20) return FULL;
      book.add(new int[] {t, v});
      return book.size();
    }

    int tear() {
      int had = book.size();
      book.clear();
      return had;
    }

    int seed(int v) {
      if (v < 0) return OUTSIDE;
      int was = (int) seed;
      seed = v;
      return was;
    }

    int keep(int i) {
      if (i != 0 && i != 1) return UNKNOWN;
      imageShelves.set(i, new ArrayList<>(shelf));
      imageSeeds[i] = seed;
      ahead.clear();
      return 1;
    }

    int goBack(int i) {
      if (i != 0 && i != 1) return UNKNOWN;
      if (imageShelves.get(i) == null) return NOT;
      shelf = new ArrayList<>(imageShelves.get(i));
      seed = imageSeeds[i];
      ahead.clear();
      return 1;
    }
  }
}
