import java.lang.reflect.Method;
import java.util.ArrayList;
import java.util.HashMap;
import java.util.List;
import java.util.Map;

/**
 * Every call with each of its numbers at the edges of what it may be (far below, one below, the first, the last, one beyond,
 * far above), all edges with all others, in states that are empty, rich or full: which refusal is due, if one is, and that
 * what is refused changes nothing. Which refusal is due is found here from the rows alone.
 */
public final class RefusalsTest {
  private static final int UNKNOWN = -1000000001, OUTSIDE = -1000000002, NOT = -1000000003, FULL = -1000000004, GOES = 0;
  private static final int LEAST = Integer.MIN_VALUE, MOST = Integer.MAX_VALUE;
  private static final int CALLS_OF_ONE_OBJECT = 512, REFUSED_IN_ONE_RUN = 60;
  private static int passed = 0, wrong = 0;

  /** What a number of a call is; what there is of it depends on the state, and on the word that was named ahead of it. */
  private enum Kind { WORD, LETTER, STEP, PLACE, FACE, SET, IMAGE, BOUNDED, ANY, FLAG }

  private record Form(String name, Kind[] kinds, int low, int high) {
    static Form of(String name, Kind... kinds) { return new Form(name, kinds, 0, 0); }
    static Form within(int low, int high, String name, Kind... kinds) { return new Form(name, kinds, low, high); }
  }

  private static final Form[] FORMS = {
      Form.within(0, 255, "feed", Kind.BOUNDED), Form.of("tell"), Form.of("fault"), Form.within(0, 6, "told", Kind.BOUNDED),
      Form.within(0, 14, "word", Kind.WORD, Kind.BOUNDED), Form.of("code", Kind.WORD), Form.of("at", Kind.WORD, Kind.ANY),
      Form.within(0, 7, "letter", Kind.WORD, Kind.LETTER, Kind.BOUNDED), Form.within(0, 3, "face", Kind.WORD, Kind.FACE, Kind.BOUNDED),
      Form.of("rings", Kind.WORD, Kind.SET), Form.within(1, 9, "states", Kind.WORD, Kind.BOUNDED), Form.of("same", Kind.WORD, Kind.WORD),
      Form.of("signs", Kind.WORD, Kind.SET), Form.of("draw", Kind.WORD), Form.of("turn", Kind.WORD, Kind.PLACE, Kind.FLAG),
      Form.of("twist", Kind.WORD, Kind.STEP), Form.of("untwist", Kind.WORD, Kind.LETTER),
      Form.within(0, 1, "poke", Kind.WORD, Kind.STEP, Kind.STEP, Kind.BOUNDED), Form.of("unpoke", Kind.WORD, Kind.LETTER, Kind.LETTER),
      Form.of("slide", Kind.WORD, Kind.LETTER, Kind.LETTER, Kind.LETTER), Form.of("smooth", Kind.WORD, Kind.LETTER),
      Form.of("sum", Kind.WORD, Kind.WORD), Form.of("take", Kind.WORD), Form.within(1, 6, "drift", Kind.BOUNDED),
      Form.within(1, 16, "undo", Kind.BOUNDED), Form.of("write", Kind.WORD, Kind.ANY), Form.of("tear"),
      Form.within(0, MOST, "seed", Kind.BOUNDED), Form.of("keep", Kind.IMAGE), Form.of("goBack", Kind.IMAGE)};

  /** An object with what the test knows of it: its rows as typed, how much it has of all that can be full or empty. */
  private static final class State {
    final OneStrokes object = new OneStrokes();
    final List<String> rows = new ArrayList<>();
    final boolean[] kept = new boolean[2];
    int calls = 0, typed = 0, entries = 0, deeds = 0;

    long ask(String name, int... numbers) {
      if (++calls > CALLS_OF_ONE_OBJECT) throw new IllegalStateException("more than 512 calls");
      return call(object, name, numbers);
    }

    void feed(String text) {
      for (char s : text.toCharArray()) ask("feed", s);
      typed += text.length();
    }

    void type(String... texts) {
      for (String text : texts) {
        feed(text);
        ask("tell");
        typed = 0;
        rows.add(text);
        did();
      }
    }

    void typeWrongly(String text) {
      feed(text);
      ask("tell");
      typed = 0;
    }

    void sign(int t, int set) {
      ask("signs", t, set);
      did();
    }

    void did() { deeds = Math.min(16, deeds + 1); }

    void write(int t, int v) {
      ask("write", t, v);
      entries++;
    }

    void keep(int i) {
      ask("keep", i);
      kept[i] = true;
      deeds = 0;
    }

    int n(int t) { return rows.get(t).length() / 2; }
    boolean no(int t) { return t < 0 || t >= rows.size(); }

    /** The two places of letter c, numbered as letters stand first. */
    int[] places(int t, int c) {
      String row = rows.get(t);
      String unlike = "";
      for (char s : row.toCharArray()) if (unlike.indexOf(s) < 0) unlike += s;
      return new int[] {row.indexOf(unlike.charAt(c)), row.lastIndexOf(unlike.charAt(c))};
    }

    boolean beside(int t, int i, int j) {
      int all = rows.get(t).length();
      return (i + 1) % all == j || (j + 1) % all == i;
    }
  }

  private static final String[] STATES = {"nothing", "one word without letters", "rich", "shelf full", "text full", "book full", "many deeds"};

  private static State make(String name) {
    State x = new State();
    switch (name) {
      case "nothing": break;
      case "one word without letters": x.type(""); break;
      case "rich": makeRich(x); break;
      case "shelf full":
        x.type("abcdefgh".repeat(2), "aabbccddeeff", "abcabc", "", "abba", "abab");
        x.feed("aab");
        break;
      case "text full":
        x.type("aabbcc", "abcadcbd");
        x.feed("abcdefghabcdefgh!!!!");
        break;
      case "book full":
        x.type("abab", "aabcbc");
        x.keep(1);
        for (int i = 0; i < 20; i++) x.write(i & 1, i);
        break;
      default:
        x.type("aabb", "abcdefgabcdefg");
        for (int i = 0; i < 15; i++) x.sign(1, i * 8 + 1);
    }
    return x;
  }

  private static void makeRich(State x) {
    x.type("abcabc", "aabbccddeeffgghh");
    x.ask("seed", 12345);
    x.keep(0);
    x.type("abab", "", "abcdefgabcdefg");
    x.sign(0, 2);
    x.sign(4, 42);
    x.typeWrongly("aabbc");
    x.write(0, 3);
    x.write(2, 3);
    x.write(1, 2);
    x.ask("seed", 2147483647);
    x.feed("qq");
  }

  public static void main(String[] args) {
    for (String state : STATES) {
      for (Form form : FORMS) {
        List<int[]> edges = new ArrayList<>();
        addEdges(make(state), form, new int[form.kinds.length], 0, edges);
        List<int[]> refused = new ArrayList<>();
        for (int[] numbers : edges) if (answersAsDue(state, form, numbers)) refused.add(numbers);
        changeNothing(state, form, refused);
      }
    }
    System.out.println(passed + " calls at edges as due, " + wrong + " otherwise");
    if (wrong != 0) System.exit(1);
  }

  private static void say(String what) {
    if (++wrong <= 40) System.out.println(what);
  }

  private static void addEdges(State x, Form form, int[] numbers, int i, List<int[]> edges) {
    if (i == numbers.length) {
      edges.add(numbers.clone());
      return;
    }
    int word = i > 0 && !x.no(numbers[0]) ? numbers[0] : -1;
    for (int number : edgesOf(x, form, form.kinds[i], word)) {
      numbers[i] = number;
      addEdges(x, form, numbers, i + 1, edges);
    }
  }

  private static int[] edgesOf(State x, Form form, Kind kind, int word) {
    switch (kind) {
      case WORD: return all(x.rows.size());
      case LETTER: return all(word < 0 ? 1 : x.n(word));
      case STEP: return around(0, word < 0 ? 0 : Math.max(0, 2 * x.n(word) - 1));
      case PLACE: return around(0, word < 0 ? 0 : 2 * x.n(word) - 1);
      case FACE: return around(0, word < 0 ? 0 : (int) call(x.object, "word", word, 4) - 1);
      case SET: return around(0, word < 0 ? 0 : (1 << x.n(word)) - 1);
      case IMAGE: return all(2);
      case BOUNDED: return around(form.low, form.high);
      case FLAG: return new int[] {0, 1};
      default: return new int[] {LEAST, -1, 0, 1, MOST};
    }
  }

  private static int[] all(int count) {
    int[] numbers = new int[count + 4];
    numbers[0] = LEAST;
    for (int i = -1; i <= count; i++) numbers[i + 2] = i;
    numbers[count + 3] = MOST;
    return numbers;
  }

  /** The last number may be the greatest there is: what is one beyond it is then the least, by wrap-around. */
  private static int[] around(int low, int high) {
    return new int[] {LEAST, low - 1, low, low + 1, high - 1, high, high + 1, MOST};
  }

  private static boolean answersAsDue(String state, Form form, int[] numbers) {
    State x = make(state);
    int due = dueRefusal(x, form, numbers);
    long got = x.ask(form.name, numbers);
    boolean good = due == GOES ? got >= -14 : got == due;
    if (good) passed++;
    else say(state + ": " + form.name + show(numbers) + " answered " + got + ", due is " + (due == GOES ? "no refusal" : "" + due));
    return due != GOES;
  }

  private static int dueRefusal(State x, Form form, int[] numbers) {
    if (namesUnknown(x, form, numbers)) return UNKNOWN;
    for (int i = 0; i < numbers.length; i++)
      if (form.kinds[i] == Kind.BOUNDED && (numbers[i] < form.low || numbers[i] > form.high)) return OUTSIDE;
    if (isNotNow(x, form.name, numbers)) return NOT;
    return isFull(x, form.name, numbers) ? FULL : GOES;
  }

  private static boolean namesUnknown(State x, Form form, int[] numbers) {
    for (int i = 0; i < numbers.length; i++) {
      int number = numbers[i];
      Kind kind = form.kinds[i];
      if (kind == Kind.WORD && x.no(number)) return true;
      if (kind == Kind.IMAGE && number != 0 && number != 1) return true;
      int n = x.no(numbers[0]) ? 0 : x.n(numbers[0]);
      if (kind == Kind.LETTER && (number < 0 || number >= n)) return true;
      if (kind == Kind.STEP && (number < 0 || number >= Math.max(1, 2 * n))) return true;
      if (kind == Kind.PLACE && (number < 0 || number >= 2 * n)) return true;
      if (kind == Kind.SET && (number & ~((1 << n) - 1)) != 0) return true;
      if (kind == Kind.FACE && (number < 0 || number >= call(x.object, "word", numbers[0], 4))) return true;
      for (int k = 1; k < i; k++) if ((kind == Kind.LETTER || kind == Kind.STEP) && form.kinds[k] == kind && numbers[k] == number) return true;
    }
    return false;
  }

  private static boolean isNotNow(State x, String name, int[] a) {
    switch (name) {
      case "draw": return !canBeDrawn(x.rows.get(a[0]));
      case "untwist": return !x.beside(a[0], x.places(a[0], a[1])[0], x.places(a[0], a[1])[1]);
      case "unpoke": {
        int[] c = x.places(a[0], a[1]), d = x.places(a[0], a[2]);
        return !(x.beside(a[0], c[0], d[0]) && x.beside(a[0], c[1], d[1]) || x.beside(a[0], c[0], d[1]) && x.beside(a[0], c[1], d[0]));
      }
      case "slide": {
        int[] c = x.places(a[0], a[1]), d = x.places(a[0], a[2]), e = x.places(a[0], a[3]);
        for (int k = 0; k < 8; k++)
          if (x.beside(a[0], c[k >> 2], d[k >> 1 & 1]) && x.beside(a[0], d[1 - (k >> 1 & 1)], e[k & 1]) && x.beside(a[0], e[1 - (k & 1)], c[1 - (k >> 2)])) return false;
        return true;
      }
      case "undo": return a[0] > x.deeds;
      case "goBack": return !x.kept[a[0]];
      default: return false;
    }
  }

  /** Of the rows here, those that can be drawn. */
  private static boolean canBeDrawn(String row) {
    return List.of("", "abcabc", "aabbccddeeffgghh", "abcdefgabcdefg", "aabbccddeeff", "abba", "aabbcc", "abcadcbd", "aabb").contains(row);
  }

  private static boolean isFull(State x, String name, int[] a) {
    switch (name) {
      case "feed": return x.typed == 20;
      case "tell": return x.rows.size() == 6;
      case "twist": return x.n(a[0]) == 8;
      case "poke": return x.n(a[0]) > 6;
      case "sum": return x.n(a[0]) + x.n(a[1]) > 8 || x.rows.size() == 6;
      case "write": return x.entries == 20;
      default: return false;
    }
  }

  /** Twins, one of which meets refusals: from there on they answer alike. */
  private static void changeNothing(String state, Form form, List<int[]> refused) {
    List<Long> want = lateAnswers(make(state));
    for (int from = 0; from < refused.size(); from += REFUSED_IN_ONE_RUN) {
      List<int[]> some = refused.subList(from, Math.min(refused.size(), from + REFUSED_IN_ONE_RUN));
      State x = make(state);
      for (int[] numbers : some) x.ask(form.name, numbers);
      if (lateAnswers(x).equals(want)) passed++;
      else say(state + ": refused calls of " + form.name + " from " + show(some.get(0)) + " on changed something");
    }
  }

  /** All that is held, whatever keeps it: shelf, text, fault, book, seed, what can be undone, images. */
  private static List<Long> lateAnswers(State x) {
    List<Long> answers = new ArrayList<>();
    answers.add(x.ask("fault"));
    for (int what = 0; what <= 6; what++) answers.add(x.ask("told", what));
    addShelf(x, answers);
    boolean more = true;
    for (int i = 0; i < 17 && more; i++) {
      long left = x.ask("undo", 1);
      answers.add(left);
      more = left >= 0;
      if (more) addShelf(x, answers);
    }
    for (int i = 0; i < 2; i++) {
      answers.add(x.ask("goBack", i));
      answers.add(x.ask("told", 6));
      addShelf(x, answers);
    }
    answers.add(x.ask("tell"));
    answers.add(x.ask("fault"));
    answers.add(x.ask("told", 0));
    for (int i = 0; i < 21; i++) {
      answers.add(x.ask("told", 4));
      if (answers.get(answers.size() - 1) < 0) break;
      if (i == 0) answers.add(x.ask("tear"));
    }
    return answers;
  }

  private static void addShelf(State x, List<Long> answers) {
    boolean more = true;
    for (int t = 0; t < 6 && more; t++) {
      long code = x.ask("code", t);
      answers.add(code);
      more = code >= 0;
      if (more) answers.add(x.ask("word", t, 3));
    }
  }

  private static String show(int[] numbers) {
    List<String> all = new ArrayList<>();
    for (int number : numbers) all.add("" + number);
    return "(" + String.join(", ", all) + ")";
  }

  private static final Map<String, Method> METHODS = new HashMap<>();

  private static long call(OneStrokes x, String name, int... numbers) {
    if (METHODS.isEmpty()) for (Method m : OneStrokes.class.getDeclaredMethods()) METHODS.put(m.getName(), m);
    Method m = METHODS.get(name);
    Object[] given = new Object[numbers.length];
    for (int i = 0; i < given.length; i++) given[i] = m.getParameterTypes()[i] == boolean.class ? (Object) (numbers[i] == 1) : (Object) numbers[i];
    try {
      return ((Number) m.invoke(x, given)).longValue();
    } catch (ReflectiveOperationException e) {
      throw new IllegalStateException(name + show(numbers) + " threw " + e.getCause(), e);
    }
  }
}
