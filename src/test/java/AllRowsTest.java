import java.util.Arrays;
import java.util.concurrent.atomic.AtomicInteger;
import java.util.concurrent.atomic.AtomicIntegerArray;
import java.util.stream.IntStream;

/**
 * All rows of up to eight letters: what is seldom so of rows that are typed or drawn at random is met here. Each answer is found
 * a second time by plain ways: what is between by counting, the third law by trying all sides, faces and rings by walking.
 */
public final class AllRowsTest {
  private static final int NONE = -1, MOST = 8, SMALL = 6, DRAWINGS_OF_ONE_OBJECT = 5;
  private static final AtomicIntegerArray ROWS = new AtomicIntegerArray(MOST + 1);
  private static final AtomicInteger DRAWINGS = new AtomicInteger(), WRONG = new AtomicInteger();

  private final int n, places;
  private final int[] at, first, later, between;
  private final int[] faceAt, cornerOf, index, sizes;
  private int faces = 0, signs = 0, sample = 0;

  private AllRowsTest(int n) {
    this.n = n;
    places = 2 * n;
    at = new int[places];
    first = new int[n];
    later = new int[n];
    between = new int[n];
    faceAt = new int[4 * n];
    cornerOf = new int[4 * n];
    index = new int[n + 3];
    sizes = new int[n + 3];
    Arrays.fill(at, NONE);
  }

  public static void main(String[] args) {
    new AllRowsTest(0).place(0);
    int rows = 1, due = 1;
    for (int n = 1; n <= MOST; n++) {
      int letters = n;
      IntStream.range(1, 2 * n).parallel().forEach(place -> new AllRowsTest(letters).placeFirst(place));
      rows += ROWS.get(n);
      // As many as there are ways to pair places: 1, 3, 15, 105 and so on.
      due *= 2 * n - 1;
      due("rows of " + n, ROWS.get(n), due);
    }
    System.out.println(rows + " rows, " + DRAWINGS + " drawings, " + WRONG + " answers otherwise");
    if (WRONG.get() != 0) System.exit(1);
  }

  private static void due(String what, long got, long want) {
    if (got != want && WRONG.incrementAndGet() < 20) System.out.println(what + " answered " + got + ", due is " + want);
  }

  /** The text is joined only if it is needed: there are some hundred million answers. */
  private void dueOf(String what, int of, long got, long want) {
    if (got != want) due(Arrays.toString(at) + " by " + signs + ": " + what + " " + of, got, want);
  }

  private void placeFirst(int other) {
    at[0] = 0;
    at[other] = 0;
    later[0] = other;
    place(1);
  }

  /** The next letter stands at the first empty place, and at each of the others in turn. */
  private void place(int letter) {
    if (letter == n) {
      ROWS.incrementAndGet(n);
      askRow();
      return;
    }
    int start = 0;
    while (at[start] != NONE) start++;
    at[start] = letter;
    first[letter] = start;
    for (int i = start + 1; i < places; i++) {
      if (at[i] != NONE) continue;
      at[i] = letter;
      later[letter] = i;
      place(letter + 1);
      at[i] = NONE;
    }
    at[start] = NONE;
  }

  private OneStrokes typed() {
    OneStrokes x = new OneStrokes();
    for (int letter : at) x.feed('a' + letter);
    x.tell();
    return x;
  }

  private void askRow() {
    OneStrokes x = typed();
    findBetween();
    for (int c = 0; c < n; c++) dueOf("between", c, x.letter(0, c, 2), between[c]);
    int broken = broken();
    dueOf("parts", 0, x.word(0, 1), parts());
    dueOf("broken", 0, x.word(0, 2), broken);
    // Another set for each row; all sets come with many rows.
    sample = (sample * 5 + 77) & (1 << n) - 1;
    findFaces(sample);
    dueOf("faces by", sample, x.signs(0, sample), faces);
    dueOf("rings of", sample, x.rings(0, sample), rings(sample));
    if (n <= SMALL) askSmall(x);
    if (broken == 0) askDrawings();
    else if (n <= SMALL) dueOf("drawings, though a law is broken", broken, x.word(0, 7), 0);
  }

  private void askSmall(OneStrokes x) {
    int[] states = new int[20];
    for (int set = 0; set < 1 << n; set++) states[rings(set)]++;
    for (int k = 1; k <= 9; k++) dueOf("sets with rings", k, x.states(0, k), states[k]);
    long least = code(0, 1);
    int kin = 0;
    for (int i = 0; i < places; i++) {
      for (int way = -1; way <= 1; way += 2) {
        least = Math.min(least, code(i, way));
        if (code(i, way) == code(0, 1)) kin++;
      }
    }
    dueOf("code", 0, x.code(0), least);
    dueOf("kin", 0, x.word(0, 11), n == 0 ? 1 : kin);
  }

  private void askDrawings() {
    int drawings = 0, drawn = NONE;
    OneStrokes x = null;
    for (int set = 0; set < 1 << n; set++) {
      findFaces(set);
      if (faces != n + 2) continue;
      if (drawings % DRAWINGS_OF_ONE_OBJECT == 0) x = typed();
      if (drawings == 0) drawn = set;
      drawings++;
      x.signs(0, set);
      askDrawing(x, set);
    }
    DRAWINGS.addAndGet(drawings);
    OneStrokes y = typed();
    dueOf("drawings", 0, y.word(0, 7), drawings);
    dueOf("drawn", 0, y.word(0, 6), drawn);
    dueOf("no law is broken, so there are some", 0, drawings > 0 ? 1 : 0, 1);
  }

  private void askDrawing(OneStrokes x, int set) {
    for (int i = 0; i < 4 * n; i++) dueOf("corner", i, x.letter(0, i / 4, 3 + i % 4), faceAt[i]);
    int zero = n == 0 ? 0 : faceAt[0], all = 0;
    for (int f = 0; f < faces; f++) {
      index[f] = x.face(0, f, 2) - 100;
      all += index[f];
    }
    dueOf("index of face", 0, index[0], 0);
    for (int s = 0; s < places; s++) {
      int corner = cornerLeaving(s, set);
      dueOf("index across step", s, index[faceAt[corner]], index[faceAt[ahead(corner)]] + 1);
    }
    for (int c = 0; c < n; c++) {
      int middle = index[faceAt[4 * c]] + index[faceAt[4 * c + 1]] + index[faceAt[4 * c + 2]] + index[faceAt[4 * c + 3]];
      dueOf("middle of", c, 4 * x.letter(0, c, 7) - 400, middle);
      all -= middle / 4;
    }
    for (int f = 0; f < faces; f++) {
      dueOf("size of", f, x.face(0, f, 0), sizes[f]);
      dueOf("dark", f, x.face(0, f, 1), (index[f] - index[zero]) % 2 == 0 ? 1 : 0);
      dueOf("turns around", f, x.face(0, f, 3), all - 2 * index[f] + 100);
    }
    if (n <= SMALL) {
      dueOf("dark trees", 0, x.word(0, 9), trees(0, zero));
      dueOf("light trees", 0, x.word(0, 10), trees(1, zero));
    }
  }

  private void findBetween() {
    for (int c = 0; c < n; c++) {
      between[c] = 0;
      // One that stands there twice goes again.
      for (int i = first[c] + 1; i < later[c]; i++) between[c] ^= 1 << at[i];
    }
  }

  private int parts() {
    int left = (1 << n) - 1, parts = 0;
    while (left != 0) {
      int part = Integer.lowestOneBit(left), before = 0;
      while (part != before) {
        before = part;
        for (int c = 0; c < n; c++) if ((part >> c & 1) == 1) part |= between[c];
      }
      left &= ~part;
      parts++;
    }
    return parts;
  }

  private boolean isOdd(int c, int d) {
    return Integer.bitCount(between[c] & between[d]) % 2 == 1;
  }

  private int broken() {
    for (int c = 0; c < n; c++) if (isOdd(c, c)) return 1;
    for (int c = 0; c < n; c++) for (int d = c + 1; d < n; d++) if ((between[c] >> d & 1) == 0 && isOdd(c, d)) return 2;
    for (int sides = 0; sides < 1 << n; sides++) if (areGood(sides)) return 0;
    return 3;
  }

  private boolean areGood(int sides) {
    for (int c = 0; c < n; c++) {
      for (int d = c + 1; d < n; d++) {
        boolean same = (sides >> c & 1) == (sides >> d & 1);
        if ((between[c] >> d & 1) == 1 && same != isOdd(c, d)) return false;
      }
    }
    return true;
  }

  private int cornerLeaving(int place, int set) {
    int c = at[place];
    return 4 * c + (first[c] == place ? 0 : (set >> c & 1) == 0 ? 1 : 3);
  }

  private int cornerComing(int place, int set) {
    int c = at[place];
    return 4 * c + (first[c] == place ? 2 : (set >> c & 1) == 0 ? 3 : 1);
  }

  private static int ahead(int corner) {
    return corner / 4 * 4 + (corner + 3) % 4;
  }

  /** Walks with the face on the left hand: out along an end, and at the step's other end to the corner ahead of it. */
  private void findFaces(int set) {
    signs = set;
    faces = n == 0 ? 2 : 0;
    for (int s = 0; s < places; s++) {
      int out = cornerLeaving(s, set), in = cornerComing((s + 1) % places, set);
      cornerOf[out] = ahead(in);
      cornerOf[in] = ahead(out);
    }
    Arrays.fill(faceAt, NONE);
    Arrays.fill(sizes, 0);
    for (int i = 0; i < 4 * n; i++) {
      if (faceAt[i] != NONE) continue;
      for (int k = i; faceAt[k] == NONE; k = cornerOf[k]) {
        faceAt[k] = faces;
        sizes[faces]++;
      }
      faces++;
    }
  }

  /** Walks along steps, on or back, until each has been walked. */
  private int rings(int set) {
    int rings = n == 0 ? 1 : 0, met = 0;
    for (int s = 0; s < places; s++) {
      if ((met >> s & 1) == 1) continue;
      rings++;
      int step = s;
      for (boolean on = true; (met >> step & 1) == 0; ) {
        met |= 1 << step;
        int place = on ? (step + 1) % places : step, c = at[place];
        int twin = first[c] == place ? later[c] : first[c];
        if ((set >> c & 1) == 1) on = !on;
        step = on ? twin : (twin + places - 1) % places;
      }
    }
    return rings;
  }

  private long code(int start, int way) {
    long code = 0;
    int met = 0;
    int[] names = new int[n];
    for (int i = 0; i < places; i++) {
      int c = at[Math.floorMod(start + way * i, places)];
      if (names[c] == 0) names[c] = ++met;
      code = code << 3 | names[c] - 1;
    }
    return code;
  }

  /** Counts by leaving a letter out, or joining its two faces and going on. */
  private int trees(int odd, int zero) {
    int[] heap = new int[faces];
    int apart = 0;
    for (int f = 0; f < faces; f++) {
      heap[f] = f;
      if ((index[f] - index[zero] & 1) == odd) apart++;
    }
    return treesFrom(0, apart - 1, heap, odd, zero);
  }

  private int treesFrom(int c, int joins, int[] heap, int odd, int zero) {
    if (joins == 0) return 1;
    if (c == n) return 0;
    int found = treesFrom(c + 1, joins, heap, odd, zero);
    int k = (index[faceAt[4 * c]] - index[zero] & 1) == odd ? 0 : 1;
    int a = heap[faceAt[4 * c + k]], b = heap[faceAt[4 * c + k + 2]];
    if (a == b) return found;
    int[] joined = heap.clone();
    for (int f = 0; f < faces; f++) if (joined[f] == b) joined[f] = a;
    return found + treesFrom(c + 1, joins - 1, joined, odd, zero);
  }
}
