/** Each promise of the document by its number: ordinary inputs, the edges that it names, wrong inputs. */
public final class PromisesTest {
  private static final int NONE = -1, UNKNOWN = -1000000001, OUTSIDE = -1000000002, NOT = -1000000003, FULL = -1000000004;
  private static int passed = 0, failed = 0;

  public static void main(String[] args) {
    newObject();
    feed();
    tell();
    fault();
    told();
    word();
    laws();
    trees();
    code();
    at();
    letter();
    face();
    rings();
    states();
    same();
    signs();
    draw();
    turn();
    twist();
    untwist();
    poke();
    unpoke();
    slide();
    smooth();
    sum();
    take();
    drift();
    undo();
    write();
    tear();
    seed();
    keep();
    goBack();
    refusalsChangeNothing();
    System.out.println(passed + " passed, " + failed + " failed");
    if (failed != 0) System.exit(1);
  }

  private static void due(int promise, String what, long got, long want) {
    if (got == want) {
      passed++;
    } else {
      failed++;
      System.out.println("promise " + promise + ", " + what + ": answered " + got + ", due is " + want);
    }
  }

  private static void dueRow(int promise, OneStrokes x, int t, String want) {
    StringBuilder got = new StringBuilder();
    for (int i = 0; x.at(t, i) >= 0 && i < 20; i++) got.append((char) ('a' + x.at(t, i)));
    if (!got.toString().equals(want)) System.out.println("row " + got + ", due is " + want);
    due(promise, "row " + want, got.toString().equals(want) ? 1 : 0, 1);
  }

  private static int type(OneStrokes x, String text) {
    for (char s : text.toCharArray()) x.feed(s);
    return x.tell();
  }

  private static OneStrokes with(String... texts) {
    OneStrokes x = new OneStrokes();
    for (String text : texts) type(x, text);
    return x;
  }

  private static void newObject() {
    OneStrokes x = new OneStrokes();
    for (int what : new int[] {0, 1, 2, 3, 5, 6}) due(1, "told(" + what + ")", x.told(what), 0);
    due(1, "told(4)", x.told(4), NONE);
    due(1, "fault", x.fault(), NONE);
    due(1, "word", x.word(0, 0), UNKNOWN);
    due(1, "goBack", x.goBack(0), NOT);
    due(1, "undo", x.undo(1), NOT);
    due(1, "NONE", OneStrokes.NONE, NONE);
    due(1, "UNKNOWN", OneStrokes.UNKNOWN, UNKNOWN);
    due(1, "OUTSIDE", OneStrokes.OUTSIDE, OUTSIDE);
    due(1, "NOT", OneStrokes.NOT, NOT);
    due(1, "FULL", OneStrokes.FULL, FULL);
  }

  private static void feed() {
    OneStrokes x = new OneStrokes();
    due(2, "-1", x.feed(-1), OUTSIDE);
    due(2, "256", x.feed(256), OUTSIDE);
    due(2, "0", x.feed(0), 1);
    due(2, "255", x.feed(255), 2);
    for (int i = 3; i <= 20; i++) due(2, "more", x.feed('a'), i);
    due(2, "the 21st", x.feed('a'), FULL);
    due(2, "OUTSIDE is ahead of FULL", x.feed(-7), OUTSIDE);
    due(2, "text", x.told(2), 20);
    due(2, "nothing to undo", x.told(5), 0);
  }

  private static void tell() {
    OneStrokes x = new OneStrokes();
    due(3, "empty", x.tell(), 0);
    due(3, "second", type(x, "zaza"), 1);
    dueRow(3, x, 0, "");
    dueRow(3, x, 1, "abab");
    due(3, "not a to z", type(x, "ab{"), -11);
    due(3, "text is empty with a fault, too", x.told(2), 0);
    due(3, "just below a", type(x, "`"), -11);
    due(3, "three times", type(x, "aaa"), -12);
    due(3, "ninth", type(x, "abcdefghi"), -13);
    due(3, "once", type(x, "aab"), -14);
    due(3, "first letter with a fault", type(x, "aaa!"), -12);
    due(3, "faults of letters ahead of that of the end", type(x, "b!"), -11);
    due(3, "faults are nothing to undo", x.told(5), 2);
    due(3, "words", x.told(0), 2);
    due(3, "eight letters", type(x, "abcdefghhgfedcba"), 2);
    due(3, "new signs", x.word(2, 3), 0);
    type(x, "aa");
    type(x, "aa");
    due(3, "sixth", type(x, "aa"), 5);
    x.feed('!');
    due(3, "full", x.tell(), FULL);
    due(3, "text stays", x.told(2), 1);
    due(3, "undo takes the word back", x.undo(1), 5);
    due(3, "then the fault", x.tell(), -11);
    due(3, "deeds", x.told(5), 5);
  }

  private static void fault() {
    OneStrokes x = new OneStrokes();
    type(x, "aab");
    due(4, "at the end", x.fault(), 3);
    type(x, "aabba");
    due(4, "third time", x.fault(), 4);
    type(x, "A");
    due(4, "no letter", x.fault(), 0);
    type(x, "abcdefghi");
    due(4, "ninth", x.fault(), 8);
    for (int i = 0; i < 6; i++) type(x, "");
    due(4, "none", x.fault(), NONE);
    x.undo(1);
    type(x, "ab?");
    due(4, "again", x.fault(), 2);
    x.tell();
    due(4, "a word", x.fault(), NONE);
    x.undo(1);
    type(x, "a");
    x.drift(1);
    due(4, "full", type(x, "aabb*"), FULL);
    due(4, "that of the one before", x.fault(), 1);
  }

  private static void told() {
    OneStrokes x = with("aabb", "abba", "abab", "", "aa");
    due(5, "words", x.told(0), 5);
    due(5, "unlike", x.told(1), 4);
    x.feed(97);
    due(5, "text", x.told(2), 1);
    x.write(0, 1);
    due(5, "entries", x.told(3), 1);
    due(5, "wrong", x.told(4), NONE);
    x.write(2, 99);
    due(5, "wrong", x.told(4), 1);
    due(5, "to undo", x.told(5), 5);
    x.seed(2147483647);
    due(5, "seed", x.told(6), 2147483647);
    due(5, "-1", x.told(-1), OUTSIDE);
    due(5, "7", x.told(7), OUTSIDE);
    due(5, "to undo still", x.told(5), 5);
  }

  private static void dueWord(OneStrokes x, int t, int... wants) {
    for (int what = 0; what < wants.length; what++) due(6, "word " + t + ", " + what, x.word(t, what), wants[what]);
  }

  private static void word() {
    OneStrokes x = with("", "aa", "abcabc", "abab", "abcadcbd");
    dueWord(x, 0, 0, 0, 0, 0, 2, 0, 0, 1, 1, 1, 1, 1, 0, 0, 0);
    dueWord(x, 1, 1, 1, 0, 0, 3, 0, 0, 2, 2, 1, 1, 4, 1, 1, 0);
    dueWord(x, 2, 3, 1, 0, 0, 3, 1, 2, 2, 2, NONE, NONE, 12, 0, 1, 0);
    dueWord(x, 3, 2, 1, 1, 0, 2, 1, NONE, 0, 1, NONE, NONE, 8, 0, 1, 0);
    dueWord(x, 4, 4, 1, 0, 0, 4, 1, 4, 2, 3, NONE, NONE, 8, 0, 1, 1);
    x.draw(2);
    dueWord(x, 2, 3, 1, 0, 2, 5, 0, 2, 2, 2, 3, 3, 12, 0, 3, 2);
    due(6, "-1", x.word(0, -1), OUTSIDE);
    due(6, "15", x.word(0, 15), OUTSIDE);
    due(6, "no word", x.word(5, 0), UNKNOWN);
    due(6, "no word", x.word(-1, 0), UNKNOWN);
    due(6, "UNKNOWN ahead of OUTSIDE", x.word(5, 15), UNKNOWN);
  }

  private static void laws() {
    OneStrokes x = with("aabbcdcd", "abcabdecde", "abcdeafcbedf", "abcdefgabcdefg");
    due(6, "law 1", x.word(0, 2), 1);
    due(6, "law 2", x.word(1, 2), 2);
    due(6, "law 3", x.word(2, 2), 3);
    due(6, "no law", x.word(3, 2), 0);
    for (int t = 0; t < 3; t++) due(6, "not to be drawn", x.word(t, 6), NONE);
    due(6, "parts", x.word(0, 1), 3);
    due(6, "seven", x.word(3, 7), 2);
  }

  private static void trees() {
    OneStrokes x = with("abcdefgabcdefg", "afbgcbdaehfcgdhe", "abcabcdefdef");
    x.draw(0);
    due(6, "a ring of seven", x.word(0, 9), 7);
    due(6, "seven beside one another", x.word(0, 10), 7);
    x.draw(1);
    due(6, "eight letters, dark", x.word(1, 9), 27);
    due(6, "eight letters, light", x.word(1, 10), 27);
    x.draw(2);
    due(6, "of a sum: times", x.word(2, 9), 9);
  }

  private static void code() {
    OneStrokes x = with("", "aa", "abba", "abab", "abcabc", "abcdefghhgfedcba");
    long[] wants = {0, 0, 9, 65, 5130, 718048024785L};
    for (int t = 0; t < 6; t++) due(7, "word " + t, x.code(t), wants[t]);
    due(7, "no word", x.code(6), UNKNOWN);
    due(7, "no word", x.code(-1), UNKNOWN);
  }

  private static void at() {
    OneStrokes x = with("zyzy");
    int[] wants = {0, 1, 0, 1};
    for (int i = 0; i < 4; i++) due(8, "place " + i, x.at(0, i), wants[i]);
    due(8, "no place", x.at(0, 4), NONE);
    due(8, "no place", x.at(0, -1), NONE);
    due(8, "no word", x.at(1, 0), UNKNOWN);
    due(8, "no word, no place", x.at(-1, -1), UNKNOWN);
  }

  private static void letter() {
    OneStrokes x = with("abcadcbd");
    x.draw(0);
    int[] wants = {1, 6, 9, 4, 0, 3, 5, 99};
    for (int what = 0; what < 8; what++) due(9, "what " + what, x.letter(0, 1, what), wants[what]);
    x.signs(0, 0);
    due(9, "not plane", x.letter(0, 1, 7), NONE);
    due(9, "no letter", x.letter(0, 4, 0), UNKNOWN);
    due(9, "no letter", x.letter(0, -1, 0), UNKNOWN);
    due(9, "no word", x.letter(1, 0, 0), UNKNOWN);
    due(9, "what", x.letter(0, 0, 8), OUTSIDE);
    due(9, "what", x.letter(0, 0, -1), OUTSIDE);
    due(9, "UNKNOWN ahead of OUTSIDE", x.letter(0, 4, 8), UNKNOWN);
  }

  private static void face() {
    OneStrokes x = with("", "abcadcbd", "abab");
    int[][] bare = {{0, 1, 100, 99}, {0, 0, 99, 101}};
    for (int f = 0; f < 2; f++) for (int what = 0; what < 4; what++) due(10, "bare " + f + ", " + what, x.face(0, f, what), bare[f][what]);
    due(10, "no face", x.face(0, 2, 0), UNKNOWN);
    x.draw(1);
    int[][] four = {{3, 1, 100, 99}, {2, 0, 101, 97}, {3, 1, 100, 99}, {3, 0, 99, 101}, {3, 0, 99, 101}, {2, 1, 98, 103}};
    for (int f = 0; f < 6; f++) for (int what = 0; what < 4; what++) due(10, "face " + f + ", " + what, x.face(1, f, what), four[f][what]);
    due(10, "no face", x.face(1, 6, 0), UNKNOWN);
    due(10, "no face", x.face(1, -1, 0), UNKNOWN);
    due(10, "what", x.face(1, 0, 4), OUTSIDE);
    due(10, "what", x.face(1, 0, -1), OUTSIDE);
    due(10, "no face, what", x.face(1, 6, 4), UNKNOWN);
    due(10, "no word", x.face(3, 0, 0), UNKNOWN);
    due(10, "sizes of one that is not plane", x.face(2, 0, 0) + x.face(2, 1, 0), 8);
    for (int what = 1; what < 4; what++) due(10, "not plane", x.face(2, 1, what), NONE);
    due(10, "OUTSIDE ahead of NONE", x.face(2, 1, 4), OUTSIDE);
  }

  private static void rings() {
    OneStrokes x = with("abcabc", "");
    int[] wants = {2, 1, 1, 2, 1, 2, 2, 3};
    for (int set = 0; set < 8; set++) due(11, "set " + set, x.rings(0, set), wants[set]);
    due(11, "other bits", x.rings(0, 8), UNKNOWN);
    due(11, "other bits", x.rings(0, -1), UNKNOWN);
    due(11, "no word", x.rings(2, 0), UNKNOWN);
    due(11, "without letters", x.rings(1, 0), 1);
    due(11, "without letters", x.rings(1, 1), UNKNOWN);
    x.signs(0, 5);
    due(11, "signs do not matter", x.rings(0, 7), 3);
  }

  private static void states() {
    OneStrokes x = with("abcabc", "", "aabbccddeeffgghh");
    int[] wants = {3, 4, 1, 0, 0, 0, 0, 0, 0};
    for (int k = 1; k <= 9; k++) due(12, "k " + k, x.states(0, k), wants[k - 1]);
    due(12, "without letters", x.states(1, 1), 1);
    int[] chosen = {1, 8, 28, 56, 70, 56, 28, 8, 1};
    for (int k = 1; k <= 9; k++) due(12, "loops, k " + k, x.states(2, k), chosen[k - 1]);
    due(12, "0", x.states(0, 0), OUTSIDE);
    due(12, "10", x.states(0, 10), OUTSIDE);
    due(12, "no word", x.states(3, 10), UNKNOWN);
  }

  private static void same() {
    OneStrokes x = with("aabb", "abba", "abab", "", "aa");
    due(13, "turned about", x.same(0, 1), 1);
    due(13, "itself", x.same(2, 2), 1);
    due(13, "unlike", x.same(0, 2), 0);
    due(13, "same code, other letters", x.same(3, 4), 0);
    due(13, "no word", x.same(0, 5), UNKNOWN);
    due(13, "no word", x.same(-1, 0), UNKNOWN);
    OneStrokes y = with("abcadcbd", "abcdbadc", "abcbdcad", "abcaddcb", "bcddacba");
    due(13, "begun elsewhere", y.same(0, 1), 1);
    due(13, "as many letters", y.same(0, 2), 0);
    due(13, "gone back alone makes it so", y.same(3, 4), 1);
    due(13, "kin of such a one", y.word(3, 11), 1);
  }

  private static void signs() {
    OneStrokes x = with("abcabc", "");
    due(14, "faces", x.signs(0, 2), 5);
    due(14, "faces", x.signs(0, 5), 5);
    due(14, "faces", x.signs(0, 7), 3);
    due(14, "signs", x.word(0, 3), 7);
    due(14, "other bits", x.signs(0, 8), UNKNOWN);
    due(14, "other bits", x.signs(0, -1), UNKNOWN);
    due(14, "no word", x.signs(2, 0), UNKNOWN);
    due(14, "without letters", x.signs(1, 0), 2);
    due(14, "without letters", x.signs(1, 1), UNKNOWN);
    due(14, "a deed each", x.told(5), 6);
    x.undo(2);
    due(14, "undone", x.word(0, 3), 5);
  }

  private static void draw() {
    OneStrokes x = with("abcabc", "", "abab");
    due(15, "signs", x.draw(0), 2);
    due(15, "signs now", x.word(0, 3), 2);
    due(15, "again", x.draw(0), 2);
    due(15, "without letters", x.draw(1), 0);
    due(15, "none", x.draw(2), NOT);
    due(15, "no word", x.draw(3), UNKNOWN);
    due(15, "deeds", x.told(5), 6);
    x.undo(3);
    due(15, "undone", x.word(0, 3), 0);
  }

  private static void turn() {
    OneStrokes x = with("abbcdadc", "");
    x.signs(0, 3);
    due(16, "on", x.turn(0, 1, false), x.word(0, 11));
    dueRow(16, x, 0, "aabcdcbd");
    due(16, "signs anew", x.word(0, 3), 0);
    x.turn(0, 3, true);
    dueRow(16, x, 0, "abccdbad");
    x.signs(0, 1);
    x.turn(0, 0, false);
    dueRow(16, x, 0, "abccdbad");
    due(16, "signs anew, though the row is the same", x.word(0, 3), 0);
    x.turn(0, 0, true);
    dueRow(16, x, 0, "abacbddc");
    due(16, "no place", x.turn(0, 8, false), UNKNOWN);
    due(16, "no place", x.turn(0, -1, false), UNKNOWN);
    due(16, "without letters", x.turn(1, 0, false), UNKNOWN);
    due(16, "no word", x.turn(2, 0, true), UNKNOWN);
    OneStrokes y = with("abcabc");
    due(16, "kin", y.turn(0, 4, true), 12);
  }

  private static void twist() {
    OneStrokes x = with("", "abab");
    due(17, "without letters", x.twist(0, 1), UNKNOWN);
    due(17, "without letters", x.twist(0, 0), 1);
    dueRow(17, x, 0, "aa");
    x.signs(1, 3);
    due(17, "in the middle", x.twist(1, 1), 3);
    dueRow(17, x, 1, "abccab");
    due(17, "signs anew", x.word(1, 3), 0);
    due(17, "behind the last", x.twist(1, 5), 4);
    dueRow(17, x, 1, "abccabdd");
    due(17, "no step", x.twist(1, 8), UNKNOWN);
    due(17, "no step", x.twist(1, -1), UNKNOWN);
    due(17, "no word", x.twist(2, 0), UNKNOWN);
    for (int n = 5; n <= 8; n++) due(17, "more", x.twist(1, 0), n);
    due(17, "full", x.twist(1, 0), FULL);
    due(17, "UNKNOWN ahead of FULL", x.twist(1, 16), UNKNOWN);
  }

  private static void untwist() {
    OneStrokes x = with("abbcca", "abab", "aa");
    due(18, "not beside", x.untwist(1, 0), NOT);
    due(18, "in the middle", x.untwist(0, 1), 2);
    dueRow(18, x, 0, "abba");
    x.signs(0, 2);
    due(18, "around the end", x.untwist(0, 0), 1);
    dueRow(18, x, 0, "aa");
    due(18, "signs anew", x.word(0, 3), 0);
    due(18, "the last one", x.untwist(2, 0), 0);
    dueRow(18, x, 2, "");
    due(18, "no letter", x.untwist(2, 0), UNKNOWN);
    due(18, "no letter", x.untwist(1, 2), UNKNOWN);
    due(18, "no word", x.untwist(3, 0), UNKNOWN);
  }

  private static void poke() {
    OneStrokes x = with("aabb", "aabb", "aabb", "", "abcdefgabcdefg", "aabbccddeeff");
    due(19, "way 0", x.poke(0, 0, 2, 0), 4);
    dueRow(19, x, 0, "abcadbcd");
    due(19, "way 1", x.poke(1, 0, 3, 1), 4);
    dueRow(19, x, 1, "abcaddcb");
    due(19, "the first one later", x.poke(2, 3, 1, 1), 4);
    dueRow(19, x, 2, "aabcddcb");
    due(19, "one step", x.poke(3, 0, 0, 0), UNKNOWN);
    due(19, "no other step", x.poke(3, 0, 1, 0), UNKNOWN);
    due(19, "the same step", x.poke(0, 1, 1, 0), UNKNOWN);
    due(19, "no step", x.poke(0, -1, 1, 0), UNKNOWN);
    due(19, "no step", x.poke(0, 1, 8, 0), UNKNOWN);
    due(19, "way", x.poke(0, 0, 1, 2), OUTSIDE);
    due(19, "way", x.poke(0, 0, 1, -1), OUTSIDE);
    due(19, "UNKNOWN ahead of OUTSIDE", x.poke(0, 1, 1, 2), UNKNOWN);
    due(19, "seven", x.poke(4, 0, 1, 0), FULL);
    due(19, "OUTSIDE ahead of FULL", x.poke(4, 0, 1, 2), OUTSIDE);
    due(19, "no word", x.poke(6, 0, 1, 0), UNKNOWN);
    due(19, "six", x.poke(5, 0, 1, 0), 8);
    dueRow(19, x, 5, "abcabcddeeffgghh");
  }

  private static void unpoke() {
    OneStrokes x = with("abcadbcd", "aabcddcb", "abacbc", "aabb", "abab");
    due(20, "same way", x.unpoke(0, 1, 2), 2);
    dueRow(20, x, 0, "aabb");
    x.signs(1, 3);
    due(20, "other way", x.unpoke(1, 2, 1), 2);
    dueRow(20, x, 1, "aabb");
    due(20, "signs anew", x.word(1, 3), 0);
    due(20, "both beside one and the same", x.unpoke(2, 0, 1), NOT);
    due(20, "around the end", x.unpoke(3, 0, 1), 0);
    due(20, "all", x.unpoke(4, 1, 0), 0);
    due(20, "twice", x.unpoke(2, 1, 1), UNKNOWN);
    due(20, "no letter", x.unpoke(2, 1, 3), UNKNOWN);
    due(20, "no letter", x.unpoke(2, -1, 1), UNKNOWN);
    due(20, "no word", x.unpoke(5, 0, 1), UNKNOWN);
  }

  private static void slide() {
    OneStrokes x = with("abcabc", "aabbcc", "abcadcbd", "aabbccdd");
    x.signs(0, 2);
    due(21, "least", x.slide(0, 0, 1, 2), 1);
    dueRow(21, x, 0, "abbcca");
    due(21, "signs anew", x.word(0, 3), 0);
    due(21, "other order", x.slide(0, 2, 1, 0), 2);
    dueRow(21, x, 0, "abcabc");
    due(21, "x of 1", x.slide(1, 0, 1, 2), 4);
    dueRow(21, x, 1, "abcabc");
    due(21, "among others", x.slide(2, 0, 1, 3), 1);
    dueRow(21, x, 2, "abcdbcda");
    due(21, "none", x.slide(3, 0, 1, 2), NOT);
    due(21, "none", x.slide(3, 3, 1, 0), NOT);
    due(21, "twice", x.slide(0, 0, 1, 1), UNKNOWN);
    due(21, "twice", x.slide(0, 0, 1, 0), UNKNOWN);
    due(21, "twice", x.slide(0, 1, 1, 0), UNKNOWN);
    due(21, "no letter", x.slide(0, 0, 1, 3), UNKNOWN);
    due(21, "no letter", x.slide(0, -1, 1, 2), UNKNOWN);
    due(21, "no word", x.slide(4, 0, 1, 2), UNKNOWN);
  }

  private static void smooth() {
    OneStrokes x = with("abcabc", "aa", "abcdacbd");
    due(22, "letters", x.smooth(0, 1), 2);
    dueRow(22, x, 0, "aabb");
    due(22, "the last", x.smooth(1, 0), 0);
    dueRow(22, x, 1, "");
    x.signs(2, 9);
    due(22, "letters", x.smooth(2, 0), 3);
    dueRow(22, x, 2, "abcbca");
    due(22, "signs anew", x.word(2, 3), 0);
    due(22, "no letter", x.smooth(1, 0), UNKNOWN);
    due(22, "no letter", x.smooth(2, -1), UNKNOWN);
    due(22, "no word", x.smooth(3, 0), UNKNOWN);
  }

  private static void sum() {
    OneStrokes x = with("abab", "abcabc", "");
    x.signs(0, 3);
    due(23, "number", x.sum(0, 1), 3);
    dueRow(23, x, 3, "ababcdecde");
    due(23, "new signs", x.word(3, 3), 0);
    due(23, "with itself", x.sum(0, 0), 4);
    dueRow(23, x, 4, "ababcdcd");
    due(23, "above 8", x.sum(3, 4), FULL);
    due(23, "no word", x.sum(0, 5), UNKNOWN);
    due(23, "no word", x.sum(-1, 0), UNKNOWN);
    due(23, "with none, 8", x.sum(1, 3), 5);
    due(23, "8", x.word(5, 0), 8);
    due(23, "6 words", x.sum(2, 2), FULL);
    due(23, "UNKNOWN ahead of FULL", x.sum(6, 2), UNKNOWN);
  }

  private static void take() {
    OneStrokes x = with("aa", "abab", "abcabc");
    x.signs(2, 2);
    due(24, "left", x.take(1), 2);
    dueRow(24, x, 1, "abcabc");
    due(24, "signs stay", x.word(1, 3), 2);
    due(24, "gone", x.word(2, 0), UNKNOWN);
    due(24, "no word", x.take(2), UNKNOWN);
    due(24, "no word", x.take(-1), UNKNOWN);
    due(24, "undone", x.undo(1), 3);
    dueRow(24, x, 1, "abab");
    x.take(0);
    x.take(0);
    due(24, "the last", x.take(0), 0);
  }

  private static void drift() {
    OneStrokes x = new OneStrokes();
    due(25, "0", x.drift(0), OUTSIDE);
    due(25, "7", x.drift(7), OUTSIDE);
    due(25, "seed stays", x.told(6), 0);
    x.seed(5);
    due(25, "words", x.drift(3), 3);
    due(25, "seed", x.told(6), 669653060);
    due(25, "codes", x.code(0), 65);
    due(25, "codes", x.code(1), 594);
    due(25, "codes", x.code(2), 2439324);
    due(25, "each of the times", x.told(5), 3);
    due(25, "no more than there is room", x.drift(6), 6);
    int then = x.told(6);
    due(25, "no room", x.drift(1), 6);
    due(25, "no draw", x.told(6), then);
    due(25, "deeds", x.told(5), 6);
  }

  private static void undo() {
    OneStrokes x = new OneStrokes();
    x.feed('a');
    x.feed('a');
    x.tell();
    x.feed('b');
    x.write(0, 1);
    x.seed(9);
    x.drift(2);
    int seed = x.told(6);
    due(26, "0", x.undo(0), OUTSIDE);
    due(26, "17", x.undo(17), OUTSIDE);
    due(26, "not so many", x.undo(4), NOT);
    due(26, "one", x.undo(1), 2);
    due(26, "left", x.told(5), 2);
    due(26, "two", x.undo(2), 0);
    due(26, "seed stays", x.told(6), seed);
    due(26, "book stays", x.told(3), 1);
    due(26, "text stays", x.told(2), 1);
    due(26, "nothing more", x.undo(1), NOT);
    OneStrokes y = with("aa");
    for (int i = 0; i < 20; i++) y.signs(0, i & 1);
    due(26, "16 at most", y.told(5), 16);
    due(26, "back by 16", y.undo(16), 1);
    due(26, "the signs of the fourth", y.word(0, 3), 1);
    due(26, "nothing more", y.undo(1), NOT);
    eachDeedIsUndone();
  }

  /** Each kind of deed counts one, and goes back to the row and the signs of before. */
  private static void eachDeedIsUndone() {
    for (int kind = 0; kind < 12; kind++) {
      OneStrokes x = with("aabbcc", "abab");
      x.signs(0, 5);
      x.keep(0);
      doDeed(x, kind);
      due(26, "deed " + kind + " counts", x.told(5), 1);
      due(26, "deed " + kind + " is undone", x.undo(1), 2);
      dueRow(26, x, 0, "aabbcc");
      due(26, "signs ahead of deed " + kind, x.word(0, 3), 5);
      due(26, "deed " + kind + " is gone", x.told(5), 0);
    }
  }

  private static void doDeed(OneStrokes x, int kind) {
    switch (kind) {
      case 0: type(x, "aa"); break;
      case 1: x.signs(0, 2); break;
      case 2: x.draw(0); break;
      case 3: x.turn(0, 1, true); break;
      case 4: x.twist(0, 1); break;
      case 5: x.untwist(0, 1); break;
      case 6: x.poke(0, 1, 4, 0); break;
      case 7: x.unpoke(1, 0, 1); break;
      case 8: x.slide(0, 0, 1, 2); break;
      case 9: x.smooth(0, 2); break;
      case 10: x.sum(0, 1); break;
      default: x.take(0);
    }
  }

  private static void write() {
    OneStrokes x = with("abcabc", "abab", "");
    due(27, "first", x.write(0, 3), 1);
    due(27, "second", x.write(2, 1), 2);
    due(27, "as it is", x.told(4), NONE);
    due(27, "any number", x.write(1, -2147483648), 3);
    due(27, "wrong", x.told(4), 2);
    due(27, "no word", x.write(3, 0), UNKNOWN);
    due(27, "no word", x.write(-1, 0), UNKNOWN);
    x.twist(0, 0);
    due(27, "no longer so", x.told(4), x.states(0, 1) == 3 ? 2 : 0);
    x.undo(1);
    x.take(2);
    due(27, "no such word any more", x.told(4), 1);
    for (int i = 4; i <= 20; i++) due(27, "more", x.write(0, i), i);
    due(27, "full", x.write(0, 0), FULL);
    due(27, "UNKNOWN ahead of FULL", x.write(5, 0), UNKNOWN);
    due(27, "no deed", x.told(5), 4);
  }

  private static void tear() {
    OneStrokes x = with("aa");
    due(28, "nothing", x.tear(), 0);
    x.write(0, 7);
    x.write(0, 7);
    due(28, "two", x.tear(), 2);
    due(28, "gone", x.told(3), 0);
    due(28, "nothing wrong", x.told(4), NONE);
    due(28, "again", x.write(0, 1), 1);
  }

  private static void seed() {
    OneStrokes x = new OneStrokes();
    due(29, "first", x.seed(2147483647), 0);
    due(29, "then", x.seed(0), 2147483647);
    due(29, "below", x.seed(-1), OUTSIDE);
    due(29, "least", x.seed(-2147483648), OUTSIDE);
    due(29, "stays", x.told(6), 0);
    x.drift(1);
    due(29, "draws change it", x.told(6) == 0 ? 0 : 1, 1);
  }

  private static void keep() {
    OneStrokes x = with("aa");
    due(30, "1", x.keep(1), 1);
    due(30, "nothing can be undone", x.told(5), 0);
    due(30, "2", x.keep(2), UNKNOWN);
    due(30, "-1", x.keep(-1), UNKNOWN);
    type(x, "abab");
    due(30, "0", x.keep(0), 1);
    x.take(0);
    due(30, "kept as it was", x.goBack(1), 1);
    dueRow(30, x, 0, "aa");
    due(30, "words", x.told(0), 1);
    x.goBack(0);
    due(30, "words", x.told(0), 2);
    x.twist(0, 0);
    x.keep(0);
    x.smooth(0, 0);
    x.goBack(0);
    dueRow(30, x, 0, "abba");
  }

  private static void goBack() {
    OneStrokes x = with("aa");
    x.signs(0, 1);
    x.seed(77);
    x.keep(0);
    due(31, "not kept", x.goBack(1), NOT);
    due(31, "2", x.goBack(2), UNKNOWN);
    due(31, "-1", x.goBack(-1), UNKNOWN);
    x.write(0, 1);
    x.feed('q');
    x.drift(3);
    x.signs(0, 0);
    due(31, "back", x.goBack(0), 1);
    due(31, "words", x.told(0), 1);
    due(31, "signs", x.word(0, 3), 1);
    due(31, "seed", x.told(6), 77);
    due(31, "book stays", x.told(3), 1);
    due(31, "text stays", x.told(2), 1);
    due(31, "nothing can be undone", x.told(5), 0);
    due(31, "undo", x.undo(1), NOT);
    x.take(0);
    due(31, "again", x.goBack(0), 1);
    due(31, "words", x.told(0), 1);
  }

  /** Each refusal in turn, then all that could have changed. */
  private static void refusalsChangeNothing() {
    OneStrokes x = with("abcabc", "abab");
    x.draw(0);
    x.seed(11);
    int deeds = x.told(5);
    x.draw(1);
    x.signs(0, 64);
    x.turn(0, 6, false);
    x.twist(0, 6);
    x.untwist(0, 0);
    x.poke(0, 0, 1, 2);
    x.unpoke(0, 0, 0);
    x.slide(0, 0, 1, 1);
    x.smooth(0, 3);
    x.sum(0, 2);
    x.take(2);
    x.drift(0);
    x.undo(10);
    x.goBack(1);
    x.keep(2);
    x.seed(-5);
    dueRow(24, x, 0, "abcabc");
    due(14, "signs stay", x.word(0, 3), 2);
    dueRow(24, x, 1, "abab");
    due(24, "words stay", x.told(0), 2);
    due(26, "what can be undone stays", x.told(5), deeds);
    due(29, "the seed stays", x.told(6), 11);
  }
}
