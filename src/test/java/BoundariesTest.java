import java.io.IOException;
import java.math.BigInteger;
import java.nio.file.Files;
import java.nio.file.Path;
import java.util.ArrayList;
import java.util.List;

/**
 * The document read sentence by sentence: each test has a sentence's own words at its head, and asks at the boundary that
 * it names, one step on this side of it, one beyond. The words are looked for in ../shared/DOC.md, and no sentence of its
 * terms and promises may be left without a test. RefusalsTest has all edges of all calls with one another.
 */
public final class BoundariesTest {
  private static final int NONE = -1, UNKNOWN = -1000000001, OUTSIDE = -1000000002, NOT = -1000000003, FULL = -1000000004;
  private static final int LEAST = Integer.MIN_VALUE, MOST = Integer.MAX_VALUE;
  private static final String EIGHT_LOOPS = "aabbccddeeffgghh", EIGHT = "abcdefghabcdefgh", SEVEN = "abcdefgabcdefg",
      SPIRAL = "abcdefghhgfedcba", SIX_LOOPS = "aabbccddeeff";
  private static final int TERMS = 0, WHAT_IT_IS = 100;
  private static final Doc DOC = Doc.read();
  private static int passed = 0, failed = 0, sentences = 0;
  private static String sentence = "";

  public static void main(String[] args) {
    head();
    partOne();
    partTwo();
    partThree();
    partFour();
    partFive();
    promisesOfWords();
    promisesOfDeeds();
    promisesOfBookAndImages();
    DOC.dueToBeRead();
    System.out.println(sentences + " sentences: " + passed + " passed, " + failed + " failed");
    if (failed != 0) System.exit(1);
  }

  private static void head() {
    callsOfOneObject();
    numbersFromZero();
    setsHaveBitKForK();
    noneIsMinusOne();
    orderOfRefusals();
    refusalsAreFarBelow();
    refusedChangesNothing();
  }

  private static void partOne() {
    lettersAndPlaces();
    lettersNumberedAsTheyStandFirst();
    numberedAnew();
    stepsGoToTheNext();
    oneStepWithoutLetters();
    shelfOfSix();
    signsBeginAtZero();
    typedAToZ();
    faultOfTheFirstLetterTheLeast();
    faultOne();
    faultTwo();
    faultThree();
    faultFour();
    emptyText();
  }

  private static void partTwo() {
    between();
    parts();
    lawOne();
    lawTwo();
    lawThree();
    broken();
  }

  private static void partThree() {
    ends();
    corners();
    sidesOfSteps();
    faces();
    facesWithoutLetters();
    handles();
    plane();
    drawn();
    drawings();
    index();
    dark();
    middle();
    turns();
    trees();
    treesOfOneFace();
    ringsOfASet();
    ringsWithoutLetters();
  }

  private static void partFour() {
    turnedAbout();
    loopInAStep();
    pokeOfTwoSteps();
    loopTakenOut();
    pokeTakenOut();
    slideOfThree();
    smoothed();
    theSum();
    codes();
    kin();
    sameness();
  }

  private static void partFive() {
    askedChangesNothing();
    theBook();
    theSeed();
    drawsWhileThereIsRoom();
    lettersByADraw();
    placesByDraws();
    undone();
    images();
  }

  private static void promisesOfWords() {
    newObject();
    feed();
    feedRefused();
    tell();
    tellRefused();
    fault();
    told();
    toldRefused();
    word();
    wordRefused();
    code();
    codeRefused();
    at();
    atRefused();
    letter();
    letterRefused();
    face();
    faceRefused();
    rings();
    ringsRefused();
    states();
    statesRefused();
    same();
    sameRefused();
  }

  private static void promisesOfDeeds() {
    signs();
    signsRefused();
    draw();
    drawRefused();
    turn();
    turnRefused();
    twist();
    twistRefused();
    untwist();
    untwistRefused();
    poke();
    pokeRefused();
    unpoke();
    unpokeRefused();
    slide();
    slideRefused();
    smooth();
    smoothRefused();
    sum();
    sumRefused();
    take();
    takeRefused();
    drift();
    driftRefused();
    undo();
    undoRefused();
  }

  private static void promisesOfBookAndImages() {
    write();
    writeRefused();
    tear();
    seed();
    seedRefused();
    keep();
    keepRefused();
    goBack();
    goBackRefused();
  }

  // ---- what tests are made of

  private static void says(int section, String words) {
    sentence = words;
    sentences++;
    if (!DOC.has(section, words)) wrong("these words are not in the document, or have their test already");
  }

  private static void wrong(String what) {
    failed++;
    System.out.println("\"" + sentence + "\": " + what);
  }

  private static void due(String what, long got, long want) {
    if (got == want) passed++;
    else wrong(what + " answered " + got + ", due is " + want);
  }

  private static void dueRow(OneStrokes x, int t, String want) {
    String got = row(x, t);
    if (got.equals(want)) passed++;
    else wrong("row " + got + ", due is " + want);
  }

  private static String row(OneStrokes x, int t) {
    StringBuilder row = new StringBuilder();
    for (int i = 0; i < 16 && x.at(t, i) >= 0; i++) row.append((char) ('a' + x.at(t, i)));
    return row.toString();
  }

  private static void feed(OneStrokes x, String text) {
    for (char s : text.toCharArray()) x.feed(s);
  }

  private static int type(OneStrokes x, String text) {
    feed(x, text);
    return x.tell();
  }

  private static OneStrokes with(String... texts) {
    OneStrokes x = new OneStrokes();
    for (String text : texts) type(x, text);
    return x;
  }

  /** All that can be seen of an object at once; some 150 calls with three words. */
  private static List<Long> seen(OneStrokes x) {
    List<Long> all = new ArrayList<>();
    all.add((long) x.fault());
    for (int what = 0; what <= 6; what++) all.add((long) x.told(what));
    for (int t = 0; t < x.told(0); t++) {
      for (int what = 0; what <= 14; what++) all.add((long) x.word(t, what));
      for (char s : row(x, t).toCharArray()) all.add((long) s);
    }
    return all;
  }

  // ---- what it is, and the head of the terms

  private static void callsOfOneObject() {
    says(WHAT_IT_IS, "An object is used for at most 512 calls after it has been made; what later calls answer is free.");
    OneStrokes x = with("abcabc");
    for (int call = 8; call <= 509; call++) due("call " + call, x.signs(0, call % 8), call % 8 == 2 || call % 8 == 5 ? 5 : 3);
    due("call 510", x.told(5), 16);
    due("call 511", x.drift(6), 6);
    due("call 512", x.undo(16), 1);
    OneStrokes y = new OneStrokes();
    for (int call = 1; call <= 510; call += 2) {
      due("call " + call, y.drift(6), 6);
      due("call " + (call + 1), y.undo(6), 0);
    }
    due("call 511", y.drift(6), 6);
    due("call 512", y.told(5), 6);
  }

  private static void numbersFromZero() {
    says(TERMS, "Words in capitals are told where they come first. All numbers are whole. What has a number has it from 0 on.");
    OneStrokes x = with("aa", "abab");
    due("word 0", x.word(0, 0), 1);
    due("word 1", x.word(1, 0), 2);
    due("word -1", x.word(-1, 0), UNKNOWN);
    due("word 2 of 2", x.word(2, 0), UNKNOWN);
    due("letter 0", x.letter(1, 0, 0), 0);
    due("letter 1", x.letter(1, 1, 0), 1);
    due("letter -1", x.letter(1, -1, 0), UNKNOWN);
    due("letter 2 of 2", x.letter(1, 2, 0), UNKNOWN);
    due("place 0", x.at(1, 0), 0);
    due("place -1", x.at(1, -1), NONE);
    due("face 0", x.face(0, 0, 0), 2);
    due("face 2", x.face(0, 2, 0), 1);
    due("face -1", x.face(0, -1, 0), UNKNOWN);
    due("face 3 of 3", x.face(0, 3, 0), UNKNOWN);
    due("step -1", x.twist(0, -1), UNKNOWN);
    due("step 2 of 2", x.twist(0, 2), UNKNOWN);
    due("step 0", x.twist(0, 0), 2);
    due("image -1", x.keep(-1), UNKNOWN);
    due("image 0", x.keep(0), 1);
    due("image 2 of 2", x.keep(2), UNKNOWN);
    x.write(0, 99);
    due("entry 0 is wrong", x.told(4), 0);
  }

  private static void setsHaveBitKForK() {
    says(TERMS, "A SET is a whole number, bit k for k.");
    for (int k = 1; k <= 7; k++) {
      OneStrokes x = with(SEVEN);
      x.twist(0, k == 7 ? 13 : k - 1);
      due("a loop, letter " + k, x.word(0, 12), 1 << k);
    }
    OneStrokes x = with("aabcbc", EIGHT_LOOPS, EIGHT, "");
    due("a loop, letter 0", x.word(0, 12), 1);
    due("all eight", x.word(1, 12), 255);
    due("none of eight", x.word(2, 12), 0);
    due("without letters", x.word(3, 12), 0);
    for (int k = 0; k < 8; k++) due("all but letter " + k, x.letter(2, k, 2), 255 - (1 << k));
    due("bit 7", x.rings(1, 128), 8);
    due("bit 8", x.rings(1, 256), UNKNOWN);
  }

  private static void noneIsMinusOne() {
    says(TERMS, "NONE is -1.");
    due("NONE", OneStrokes.NONE, -1);
    OneStrokes x = with("abab");
    due("fault", x.fault(), -1);
    due("wrong", x.told(4), -1);
    due("no place", x.at(0, 4), -1);
    due("not drawn", x.word(0, 6), -1);
  }

  private static void orderOfRefusals() {
    says(TERMS, "REFUSALS, of several the first in this order: UNKNOWN (a WORD, LETTER, STEP, FACE, IMAGE that there is not; one twice,"
        + " where two or three are asked), OUTSIDE (another number out of its bounds), NOT (not now, as told), FULL.");
    OneStrokes x = with(EIGHT, "abab", "aabbcc", "", "aa", "abba");
    unknownIsAheadOfOutside(x);
    unknownIsAheadOfNot(x);
    unknownIsAheadOfFull(x);
    due("OUTSIDE ahead of FULL: way", x.poke(0, 0, 1, 2), OUTSIDE);
    due("FULL alone", x.poke(0, 0, 1, 1), FULL);
    x.keep(0);
    due("OUTSIDE ahead of NOT: undo(0)", x.undo(0), OUTSIDE);
    due("OUTSIDE ahead of NOT: undo(17)", x.undo(17), OUTSIDE);
    due("NOT alone", x.undo(16), NOT);
    feed(x, "aaaaaaaaaaaaaaaaaaaa");
    due("OUTSIDE ahead of FULL: feed(256)", x.feed(256), OUTSIDE);
    due("FULL alone", x.feed(255), FULL);
    due("one twice, where it may be", x.same(0, 0), 1);
  }

  private static void unknownIsAheadOfOutside(OneStrokes x) {
    due("no word, what", x.word(6, 15), UNKNOWN);
    due("no letter, what", x.letter(0, 8, 8), UNKNOWN);
    due("no face, what", x.face(0, 8, 4), UNKNOWN);
    due("no word, k", x.states(6, 0), UNKNOWN);
    due("one step twice, way", x.poke(2, 1, 1, 2), UNKNOWN);
    due("no step, way", x.poke(2, 6, 0, -1), UNKNOWN);
    due("no other step, way", x.poke(2, 0, 6, -1), UNKNOWN);
    due("way alone", x.poke(2, 0, 5, -1), OUTSIDE);
  }

  private static void unknownIsAheadOfNot(OneStrokes x) {
    due("no word to draw", x.draw(6), UNKNOWN);
    due("not to be drawn", x.draw(1), NOT);
    due("no letter to untwist", x.untwist(0, 8), UNKNOWN);
    due("no loop", x.untwist(0, 7), NOT);
    due("one letter twice", x.unpoke(0, 2, 2), UNKNOWN);
    due("no poke", x.unpoke(0, 2, 4), NOT);
    due("one letter twice of three", x.slide(0, 0, 3, 3), UNKNOWN);
    due("one letter twice of three", x.slide(0, 3, 0, 3), UNKNOWN);
    due("one letter twice of three", x.slide(0, 3, 3, 0), UNKNOWN);
    due("no slide", x.slide(0, 0, 3, 5), NOT);
    due("no image 2", x.goBack(2), UNKNOWN);
    due("image 1 is not kept", x.goBack(1), NOT);
  }

  private static void unknownIsAheadOfFull(OneStrokes x) {
    due("no step, 8 letters", x.twist(0, 16), UNKNOWN);
    due("8 letters", x.twist(0, 15), FULL);
    due("one step twice, 8 letters", x.poke(0, 3, 3, 0), UNKNOWN);
    due("no word, 6 words", x.sum(6, 0), UNKNOWN);
    due("no other word, 6 words", x.sum(0, 6), UNKNOWN);
    due("6 words", x.sum(3, 3), FULL);
    for (int i = 0; i < 20; i++) x.write(0, i);
    due("no word, 20 entries", x.write(6, 0), UNKNOWN);
    due("20 entries", x.write(5, 0), FULL);
  }

  private static void refusalsAreFarBelow() {
    says(TERMS, "They are far below all that is counted: -1000000001 and on.");
    due("UNKNOWN", OneStrokes.UNKNOWN, -1000000001);
    due("OUTSIDE", OneStrokes.OUTSIDE, -1000000002);
    due("NOT", OneStrokes.NOT, -1000000003);
    due("FULL", OneStrokes.FULL, -1000000004);
    due("as a long, too", new OneStrokes().code(0), -1000000001L);
  }

  private static void refusedChangesNothing() {
    says(TERMS, "What is refused changes nothing.");
    OneStrokes x = with("abcabc", "abab");
    x.draw(0);
    x.keep(0);
    x.signs(1, 3);
    type(x, "a?");
    feed(x, "zz");
    x.write(0, 4);
    x.seed(8);
    List<Long> ahead = seen(x);
    refusedOnes(x);
    if (ahead.equals(seen(x))) passed++;
    else wrong("something is otherwise than ahead of refused calls");
    due("the text", x.tell(), 2);
    dueRow(x, 2, "aa");
    due("what can be undone", x.undo(2), 2);
    due("signs", x.word(1, 3), 0);
    due("an image not kept", x.goBack(1), NOT);
    due("an image", x.goBack(0), 1);
    due("its seed", x.told(6), 0);
  }

  private static void refusedOnes(OneStrokes x) {
    x.feed(256);
    x.draw(1);
    x.signs(0, 8);
    x.turn(0, 6, false);
    x.twist(0, 6);
    x.untwist(0, 0);
    x.poke(0, 0, 1, 2);
    x.unpoke(0, 0, 0);
    x.slide(1, 0, 1, 1);
    x.smooth(0, 3);
    x.sum(0, 2);
    x.take(2);
    x.drift(7);
    x.undo(2);
    x.write(2, 0);
    x.seed(-1);
    x.keep(2);
    x.goBack(1);
  }

  // ---- terms, part 1

  private static void lettersAndPlaces() {
    says(TERMS, "A WORD has N LETTERS (0 .. 8), numbered from 0, and 2 N PLACES in a ring (behind the last comes PLACE 0),"
        + " at each of which a LETTER stands, each LETTER at two.");
    OneStrokes x = with("", "aa", EIGHT, SEVEN, "abcbca", "abcbac");
    due("0 letters", x.word(0, 0), 0);
    due("no place 0", x.at(0, 0), NONE);
    due("no letter 0", x.letter(0, 0, 0), UNKNOWN);
    due("1 letter", x.word(1, 0), 1);
    due("place 1 of 2", x.at(1, 1), 0);
    due("no place 2 of 2", x.at(1, 2), NONE);
    due("8 letters", x.word(2, 0), 8);
    due("place 15 of 16", x.at(2, 15), 7);
    due("no place 16 of 16", x.at(2, 16), NONE);
    due("letter 7 of 8", x.letter(2, 7, 0), 7);
    due("its other place", x.letter(2, 7, 1), 15);
    due("no letter 8 of 8", x.letter(2, 8, 0), UNKNOWN);
    due("7 letters and 1", x.twist(3, 0), 8);
    due("8 letters and 1", x.twist(3, 0), FULL);
    due("behind place 5 of 6 comes place 0", x.word(4, 12), 1);
    due("behind place 4 of 6 it does not", x.word(5, 12), 0);
    x.take(5);
    due("nine typed", type(x, "abcdefghi"), -13);
  }

  private static void lettersNumberedAsTheyStandFirst() {
    says(TERMS, "LETTERS are numbered as they stand first: LETTER 0 at PLACE 0, and so on.");
    OneStrokes x = with("zyxwvutsstuvwxyz", "qaqa");
    for (int i = 0; i < 8; i++) due("place " + i, x.at(0, i), i);
    for (int i = 8; i < 16; i++) due("place " + i, x.at(0, i), 15 - i);
    due("q stands ahead of a", x.at(1, 0), 0);
    due("a behind it", x.at(1, 1), 1);
  }

  private static void numberedAnew() {
    says(TERMS, "(Whenever a row is made otherwise, its LETTERS are numbered anew so.)");
    OneStrokes x = with("abbcca", "abab", "aabcbc", "abacbc");
    x.turn(0, 1, false);
    dueRow(x, 0, "aabbcc");
    x.twist(1, 0);
    dueRow(x, 1, "abbcac");
    x.untwist(2, 0);
    dueRow(x, 2, "abab");
    x.unpoke(3, 0, 2);
    dueRow(x, 3, "aa");
    x.poke(3, 0, 1, 1);
    dueRow(x, 3, "abcacb");
    OneStrokes y = with("aabbcc", "abcabc", "abab");
    y.slide(0, 0, 1, 2);
    dueRow(y, 0, "abcabc");
    y.smooth(1, 0);
    dueRow(y, 1, "abba");
    y.sum(2, 1);
    dueRow(y, 3, "ababcddc");
  }

  private static void stepsGoToTheNext() {
    says(TERMS, "STEP i goes from PLACE i to the next one.");
    OneStrokes x = with("abab", "abab", "abab");
    due("step 0", x.twist(0, 0), 3);
    dueRow(x, 0, "abbcac");
    due("the last step goes to place 0", x.twist(1, 3), 3);
    dueRow(x, 1, "ababcc");
    due("no step 4 of 4", x.twist(2, 4), UNKNOWN);
    due("no step -1", x.twist(2, -1), UNKNOWN);
    due("the last and the first", x.poke(2, 3, 0, 0), 4);
    dueRow(x, 2, "abcdadbc");
  }

  private static void oneStepWithoutLetters() {
    says(TERMS, "A WORD without LETTERS has one STEP, 0.");
    OneStrokes x = with("");
    due("step 1", x.twist(0, 1), UNKNOWN);
    due("step -1", x.twist(0, -1), UNKNOWN);
    due("there are no two", x.poke(0, 0, 1, 0), UNKNOWN);
    due("step 0 twice", x.poke(0, 0, 0, 0), UNKNOWN);
    due("step 0", x.twist(0, 0), 1);
    dueRow(x, 0, "aa");
    due("now there are two", x.poke(0, 0, 1, 0), 3);
    dueRow(x, 0, "abcabc");
  }

  private static void shelfOfSix() {
    says(TERMS, "THE SHELF holds WORDS (6 at most), numbered as they came; if one goes, later ones have one number less.");
    OneStrokes x = with("", "aa", "aabb", "aabbcc", "aabbccdd");
    due("the sixth", type(x, "aabbccddee"), 5);
    for (int t = 0; t < 6; t++) due("word " + t, x.word(t, 0), t);
    due("a seventh", x.tell(), FULL);
    due("a seventh by sum", x.sum(0, 0), FULL);
    due("a seventh by draws", x.drift(1), 6);
    due("the last goes", x.take(5), 5);
    due("no word 5", x.word(5, 0), UNKNOWN);
    due("word 4 is as it was", x.word(4, 0), 4);
    due("the first goes", x.take(0), 4);
    for (int t = 0; t < 4; t++) due("then word " + t, x.word(t, 0), t + 1);
    due("one between goes", x.take(1), 3);
    due("the one ahead of it", x.word(0, 0), 1);
    due("those behind it", x.word(1, 0), 3);
    due("those behind it", x.word(2, 0), 4);
    due("room again", x.tell(), 3);
  }

  private static void signsBeginAtZero() {
    says(TERMS, "Each has SIGNS: a SET of LETTERS, 0 as it comes, and again whenever a deed makes its row anew (be it the same).");
    for (int kind = 0; kind < 9; kind++) {
      OneStrokes x = with("aabbcc", "aa");
      x.signs(0, 7);
      x.signs(1, 1);
      makeRowAnew(x, kind);
      due("row made anew, kind " + kind, x.word(0, 3), 0);
      due("the other's signs, kind " + kind, x.word(1, 3), 1);
    }
    OneStrokes x = with("abcabc");
    due("as typed", x.word(0, 3), 0);
    x.signs(0, 7);
    x.sum(0, 0);
    due("a sum", x.word(1, 3), 0);
    x.drift(1);
    due("by draws", x.word(2, 3), 0);
    due("the one that is there", x.word(0, 3), 7);
    x.take(1);
    due("no row is made anew", x.word(0, 3), 7);
  }

  /** The last two leave the row the same. */
  private static void makeRowAnew(OneStrokes x, int kind) {
    switch (kind) {
      case 0: x.turn(0, 1, true); break;
      case 1: x.twist(0, 5); break;
      case 2: x.untwist(0, 2); break;
      case 3: x.poke(0, 0, 1, 0); break;
      case 4: x.poke(0, 5, 0, 1); break;
      case 5: x.smooth(0, 1); break;
      case 6: x.slide(0, 0, 1, 2); break;
      case 7: x.turn(0, 0, false); break;
      default: x.turn(0, 2, false);
    }
  }

  private static void typedAToZ() {
    says(TERMS, "TYPED: a to z, each twice.");
    OneStrokes x = new OneStrokes();
    due("a and z", type(x, "azaz"), 0);
    due("ahead of a", type(x, "``"), -11);
    due("behind z", type(x, "{{"), -11);
    due("once", type(x, "az"), -14);
    due("three times", type(x, "azaza"), -12);
  }

  private static void faultOfTheFirstLetterTheLeast() {
    says(TERMS, "FAULTS, at the first letter that has one, of these the least:");
    OneStrokes x = new OneStrokes();
    due("2 is ahead of 1 by place", type(x, "aaa!"), -12);
    due("place", x.fault(), 2);
    due("1 is ahead of 2 by place", type(x, "aa!a"), -11);
    due("place", x.fault(), 2);
    due("3 is ahead of 1 by place", type(x, "abcdefghi!"), -13);
    due("place", x.fault(), 8);
    due("2 is ahead of 3 by place", type(x, "aaabcdefghi"), -12);
    due("place", x.fault(), 2);
    due("1, though it would be a ninth, too", type(x, "abcdefgh!"), -11);
    due("place", x.fault(), 8);
    due("a letter's is ahead of that of the end", type(x, "bcaaa"), -12);
    due("place", x.fault(), 4);
  }

  private static void faultOne() {
    says(TERMS, "1 it is not a to z.");
    for (int sign : new int[] {0, '`', '{', 'A', 'Z', ' ', '0', 255}) {
      OneStrokes x = new OneStrokes();
      x.feed(sign);
      x.feed(sign);
      due("sign " + sign, x.tell(), -11);
      due("its place", x.fault(), 0);
    }
    for (char sign : "abyz".toCharArray()) {
      OneStrokes x = new OneStrokes();
      x.feed(sign);
      x.feed(sign);
      due("sign " + sign, x.tell(), 0);
    }
  }

  private static void faultTwo() {
    says(TERMS, "2 it stood twice ahead of it.");
    OneStrokes x = new OneStrokes();
    due("once ahead", type(x, "aa"), 0);
    due("twice ahead", type(x, "aaa"), -12);
    due("place", x.fault(), 2);
    due("three times ahead: the first counts", type(x, "aaaa"), -12);
    due("place", x.fault(), 2);
    due("the last one of twenty", type(x, EIGHT + "h"), -12);
    due("place", x.fault(), 16);
  }

  private static void faultThree() {
    says(TERMS, "3 it would be a ninth unlike one.");
    OneStrokes x = new OneStrokes();
    due("eight", type(x, EIGHT), 0);
    due("the ninth at once", type(x, "abcdefghi"), -13);
    due("place", x.fault(), 8);
    due("the ninth behind eight pairs", type(x, EIGHT_LOOPS + "ii"), -13);
    due("place", x.fault(), 16);
    due("the ninth from the other end", type(x, "zyxwvutsr"), -13);
    due("place", x.fault(), 8);
    due("the eighth twice", type(x, "abcdefghh"), -14);
    due("place", x.fault(), 9);
  }

  private static void faultFour() {
    says(TERMS, "At the end (the text's length): 4 one stands there but once.");
    OneStrokes x = new OneStrokes();
    due("one letter", type(x, "a"), -14);
    due("the length", x.fault(), 1);
    due("the last of 15", type(x, "aabbccddeeffggh"), -14);
    due("the length", x.fault(), 15);
    due("the first of 15", type(x, "abbccddeeffgghh"), -14);
    due("the length", x.fault(), 15);
    due("two", type(x, "ab"), -14);
    due("the length", x.fault(), 2);
    due("none of 16", type(x, EIGHT_LOOPS), 0);
    due("no fault", x.fault(), NONE);
  }

  private static void emptyText() {
    says(TERMS, "(An empty text is a WORD without LETTERS.)");
    OneStrokes x = new OneStrokes();
    due("tell", x.tell(), 0);
    due("no fault", x.fault(), NONE);
    due("letters", x.word(0, 0), 0);
    due("again", x.tell(), 1);
    due("empty by a fault", type(x, "!"), -11);
    due("tell", x.tell(), 2);
  }

  // ---- terms, part 2

  private static void between() {
    says(TERMS, "BETWEEN: of two LETTERS one stands once between the two PLACES of the other (and so the other way round).");
    OneStrokes x = with("aabb", "abab", "abba", "abcabc", "");
    due("not at all", x.letter(0, 0, 2), 0);
    due("once", x.letter(1, 0, 2), 2);
    due("the other way round", x.letter(1, 1, 2), 1);
    due("twice", x.letter(2, 0, 2), 0);
    due("the other way round", x.letter(2, 1, 2), 0);
    due("not with itself", x.letter(3, 2, 2), 3);
    due("no letter", x.letter(4, 0, 2), UNKNOWN);
  }

  private static void parts() {
    says(TERMS, "PARTS: heaps of LETTERS that hang together by BETWEEN.");
    OneStrokes x = with("", "aa", "aabb", "abab", "abacbc", EIGHT_LOOPS);
    int[] wants = {0, 1, 2, 1, 1, 8};
    for (int t = 0; t < 6; t++) due("word " + t, x.word(t, 1), wants[t]);
    OneStrokes y = with(EIGHT, "aabcdefghbcdefgh", SPIRAL);
    due("eight in one", y.word(0, 1), 1);
    due("seven and one", y.word(1, 1), 2);
    due("each within another", y.word(2, 1), 8);
    for (int c = 0; c < 7; c++) due("letters " + c + " and the next, six alone", with(twoAmongLoops(c)).word(0, 1), 7);
  }

  /** Of eight letters one and the next are between, the others are loops. */
  private static String twoAmongLoops(int c) {
    return EIGHT_LOOPS.substring(0, 2 * c) + "xyxy" + EIGHT_LOOPS.substring(2 * c + 4);
  }

  private static void lawOne() {
    says(TERMS, "LAWS: 1 each LETTER is BETWEEN with an even number of LETTERS.");
    OneStrokes x = with("aabb", "abab", "abcabc", "abcdabcd", "abcdeabcde", "abcabcdede");
    int[] wants = {0, 1, 0, 1, 0, 1};
    for (int t = 0; t < 6; t++) due("with " + Integer.bitCount(x.letter(t, 0, 2)), x.word(t, 2), wants[t]);
    for (int c = 0; c < 7; c++) due("letters " + c + " and the next with one", with(twoAmongLoops(c)).word(0, 2), 1);
  }

  private static void lawTwo() {
    says(TERMS, "2 each two that are not BETWEEN have an even number of LETTERS that are BETWEEN with both.");
    OneStrokes x = with("aabb", "abcabdecde", "abcdbadc", "abcabc");
    due("none with both", x.word(0, 2), 0);
    due("one with both", x.word(1, 2), 2);
    due("two with both", x.word(2, 2), 0);
    due("one with both of two that are", x.word(3, 2), 0);
    String[] late = {"aabbcdefgcfgde", "aabbccdefdeghfgh", "aabbccdefghdghef"};
    for (String row : late) due("one with both of late letters alone, " + row, with(row).word(0, 2), 2);
  }

  private static void lawThree() {
    says(TERMS, "3 LETTERS can be put on two sides so that of two that are BETWEEN they are on unlike sides, if the number of LETTERS"
        + " BETWEEN with both is even, on the same, if it is odd.");
    OneStrokes x = with("abcdbadc", "abcabc", "abcdeafcbedf", "abcdefbadcfe", "", "abcadebcfdef");
    due("unlike sides", x.word(0, 2), 0);
    due("the same side", x.word(1, 2), 0);
    due("no sides do", x.word(2, 2), 3);
    due("no sides do", x.word(3, 2), 3);
    due("no letters to put", x.word(4, 2), 0);
    due("some on unlike sides, some on the same", x.word(5, 2), 0);
    due("and so", with("abcdbefadcef").word(0, 2), 0);
    String[] late = {"aabcdefgcbedgf", "aabbcdefgchedgfh", "aabbcdefghdcfehg"};
    for (String row : late) due("no sides do for late letters, " + row, with(row).word(0, 2), 3);
  }

  private static void broken() {
    says(TERMS, "BROKEN: the first LAW that does not hold; 0: all do.");
    OneStrokes x = with("abacbc", "abcadbcd", "abacdbecde", "abcadcedbe", "abab", "abcadcbd");
    due("1 and 2", x.word(0, 2), 1);
    due("1 and 3", x.word(1, 2), 1);
    due("1, 2 and 3", x.word(2, 2), 1);
    due("2 and 3", x.word(3, 2), 2);
    due("1 alone", x.word(4, 2), 1);
    due("none", x.word(5, 2), 0);
  }

  // ---- terms, part 3

  private static void dueFacesOfCorners(OneStrokes x, int t, int c, int... wants) {
    for (int k = 0; k < 4; k++) due("corner " + k + " of letter " + c, x.letter(t, c, 3 + k), wants[k]);
  }

  /** Of aa by hand: steps 0 and 1 leave places 0 and 1, and come to places 1 and 0. */
  private static void ends() {
    says(TERMS, "ENDS of a LETTER, whose PLACES are p and, later, q, in a round: 0 the STEP that leaves p; 1 that leaves q, if it is"
        + " not in SIGNS, else that comes to q; 2 that comes to p; 3 the other one of q.");
    OneStrokes x = with("aa");
    dueFacesOfCorners(x, 0, 0, 0, 1, 0, 2);
    x.signs(0, 1);
    dueFacesOfCorners(x, 0, 0, 0, 1, 2, 1);
    OneStrokes y = with("abcabc");
    y.signs(0, 2);
    dueFacesOfCorners(y, 0, 0, 0, 1, 2, 3);
    dueFacesOfCorners(y, 0, 1, 1, 0, 3, 4);
    dueFacesOfCorners(y, 0, 2, 2, 1, 4, 3);
  }

  private static void corners() {
    says(TERMS, "CORNERS 0 .. 3 of a LETTER: CORNER k is between END k and the next one in the round.");
    OneStrokes x = with("aa");
    due("corner 0", x.letter(0, 0, 3), 0);
    due("corner 3 is between end 3 and end 0", x.letter(0, 0, 6), 2);
    due("ahead of corner 0 letters that are between are told", x.letter(0, 0, 2), 0);
    due("behind corner 3 the middle is told", x.letter(0, 0, 7), 100);
    due("beyond", x.letter(0, 0, 8), OUTSIDE);
  }

  /** What is on the left of a step has an index of one more than what is on its right: asked at each place of each letter. */
  private static void sidesOfSteps() {
    says(TERMS, "A STEP has on its left the CORNER k where it leaves as END k, and the CORNER ahead of j in the round where it comes"
        + " as END j; on its right the CORNER ahead of k, and CORNER j.");
    String[] rows = {"aa", "aabb", "abba", "abcadcbd", "abcabcdefdef", SPIRAL, SEVEN, "abccbdeffedghhga", "abcdefghfedcbahg",
        "afbecgdaebfdgc", "acbfcedgebfagd", "afbecadcegfbgd", "afbachdgebfdgehc", "afbgcbdaehfcgdhe", EIGHT_LOOPS};
    for (String row : rows) {
      OneStrokes x = with(row);
      int drawn = x.draw(0);
      dueSides(x);
      int all = (1 << x.word(0, 0)) - 1;
      x.signs(0, all - drawn);
      dueSides(x);
    }
  }

  private static void dueSides(OneStrokes x) {
    due("face 0", x.face(0, 0, 2), 100);
    for (int c = 0; c < x.word(0, 0); c++) {
      int end = (x.word(0, 3) >> c & 1) == 0 ? 1 : 3;
      due("left less right of what leaves p", indexAt(x, c, 0) - indexAt(x, c, 3), 1);
      due("left less right of what leaves q", indexAt(x, c, end) - indexAt(x, c, end - 1), 1);
      due("left less right of what comes to p", indexAt(x, c, 1) - indexAt(x, c, 2), 1);
      due("left less right of what comes to q", indexAt(x, c, (end + 1) % 4) - indexAt(x, c, (end + 2) % 4), 1);
    }
  }

  private static int indexAt(OneStrokes x, int c, int k) {
    return x.face(0, x.letter(0, c, 3 + k), 2);
  }

  private static void faces() {
    says(TERMS, "CORNERS on one side of a STEP are joined; FACES are heaps of joined CORNERS, numbered by their first CORNERS"
        + " (by LETTERS, then CORNERS); SIZE: how many CORNERS.");
    OneStrokes x = with(EIGHT_LOOPS, "abcdeacfdgebfg", "abba");
    int[] sizes = {16, 8, 1, 1, 1, 1, 1, 1, 1, 1};
    for (int f = 0; f < 10; f++) due("size of face " + f, x.face(0, f, 0), sizes[f]);
    due("no face 10 of 10", x.face(0, 10, 0), UNKNOWN);
    dueFacesOfCorners(x, 0, 7, 0, 1, 0, 9);
    due("all 28 corners in one face", x.signs(1, 90), 1);
    due("its size", x.face(1, 0, 0), 28);
    due("no face 1 of 1", x.face(1, 1, 0), UNKNOWN);
    dueFacesOfCorners(x, 2, 0, 0, 1, 0, 2);
    dueFacesOfCorners(x, 2, 1, 2, 0, 2, 3);
    OneStrokes y = with("abcdefagefdchbhg", "abcdefgedcfbag");
    due("joined by way of many others", y.signs(0, 186), 4);
    due("joined by way of many others", y.signs(1, 80), 3);
  }

  private static void facesWithoutLetters() {
    says(TERMS, "A WORD without LETTERS has two FACES of SIZE 0: 0 on the left of its STEP, 1 on the right.");
    OneStrokes x = with("");
    due("faces", x.word(0, 4), 2);
    due("size of 0", x.face(0, 0, 0), 0);
    due("size of 1", x.face(0, 1, 0), 0);
    due("no face 2", x.face(0, 2, 0), UNKNOWN);
    due("no face -1", x.face(0, -1, 0), UNKNOWN);
    due("0 is on the left, so it is dark", x.face(0, 0, 1), 1);
    due("1 is on the right, so it is light", x.face(0, 1, 1), 0);
    due("index of 1", x.face(0, 1, 2), 99);
  }

  private static void handles() {
    says(TERMS, "HANDLES: N and 2 less FACES, / 2.");
    OneStrokes x = with("", "aa", "abab", "abcdeacfdgebfg", "abcdedbfghehfcag");
    x.signs(3, 90);
    x.signs(4, 186);
    int[] faces = {2, 3, 2, 1, 2}, handles = {0, 0, 1, 4, 4};
    for (int t = 0; t < 5; t++) {
      due("faces of word " + t, x.word(t, 4), faces[t]);
      due("handles of word " + t, x.word(t, 5), handles[t]);
    }
  }

  private static void plane() {
    says(TERMS, "PLANE: there are none.");
    OneStrokes x = with("abcabc");
    int[] handles = {1, 1, 0, 1, 1, 0, 1, 1};
    for (int set = 0; set < 8; set++) {
      x.signs(0, set);
      boolean isPlane = handles[set] == 0;
      due("handles by " + set, x.word(0, 5), handles[set]);
      due("trees by " + set, x.word(0, 9), isPlane ? 3 : NONE);
      due("a middle by " + set, x.letter(0, 0, 7), isPlane ? 100 - set / 5 : NONE);
      due("an index by " + set, x.face(0, 0, 2), isPlane ? 100 : NONE);
    }
  }

  private static void drawn() {
    says(TERMS, "DRAWN: the least number of SIGNS by which it is PLANE; NONE.");
    OneStrokes x = with("", "abab", "abcabc", "abcadcbd", SEVEN, EIGHT_LOOPS);
    int[] wants = {0, NONE, 2, 4, 42, 0};
    for (int t = 0; t < 6; t++) due("word " + t, x.word(t, 6), wants[t]);
    x.signs(2, 5);
    due("whatever the signs are", x.word(2, 6), 2);
    OneStrokes y = with("abcabc");
    y.signs(0, 1);
    due("by one less it is not", y.word(0, 5), 1);
    y.signs(0, 5);
    due("by another, which is more, it is", y.word(0, 5), 0);
  }

  private static void drawings() {
    says(TERMS, "DRAWINGS: how many SIGNS there are by which it is.");
    OneStrokes x = with("", "aa", "abab", "abcabc", EIGHT_LOOPS, EIGHT);
    int[] wants = {1, 2, 0, 2, 256, 0};
    for (int t = 0; t < 6; t++) due("word " + t, x.word(t, 7), wants[t]);
  }

  private static void index() {
    says(TERMS, "Of a PLANE one: INDEX of FACES: of FACE 0 it is 0; that on the left of a STEP has one more than that on its right.");
    OneStrokes x = with(SPIRAL, "abab");
    int[] down = {0, 1, -1, -2, -3, -4, -5, -6, -7, -8}, up = {0, -1, -2, 1, 2, 3, 4, 5, 6, 7};
    for (int f = 0; f < 10; f++) due("going down, face " + f, x.face(0, f, 2), 100 + down[f]);
    x.signs(0, 255);
    for (int f = 0; f < 10; f++) due("going up, face " + f, x.face(0, f, 2), 100 + up[f]);
    due("not plane", x.face(1, 0, 2), NONE);
    // Going along the stroke, faces are met here whose neighbours come but later, once, and once more.
    indexesOf("abccdabd", 2);
    indexesOf("abcddefcefgabg", 18);
    indexesOf("aabcddefcefghbgh", 80);
  }

  private static void indexesOf(String row, int set) {
    OneStrokes x = with(row);
    due("plane by " + set, x.signs(0, set), row.length() / 2 + 2);
    dueSides(x);
  }

  private static void dark() {
    says(TERMS, "DARK: the FACE on the left of STEP 0, and all whose INDEX is an even number away from that; others are LIGHT.");
    OneStrokes x = with(SPIRAL, "abab");
    int[] down = {1, 0, 0, 1, 0, 1, 0, 1, 0, 1};
    for (int f = 0; f < 10; f++) due("face " + f, x.face(0, f, 1), down[f]);
    due("not plane", x.face(1, 0, 1), NONE);
    due("not plane", x.face(1, 1, 1), NONE);
  }

  private static void middle() {
    says(TERMS, "MIDDLE of a LETTER: the INDEX of its four CORNERS' FACES, together, / 4.");
    OneStrokes x = with(SPIRAL, "abab");
    for (int c = 0; c < 8; c++) due("going down, letter " + c, x.letter(0, c, 7), 100 - c);
    x.signs(0, 255);
    for (int c = 0; c < 8; c++) due("going up, letter " + c, x.letter(0, c, 7), 99 + c);
    due("not plane", x.letter(1, 0, 7), NONE);
  }

  private static void turns() {
    says(TERMS, "TURNS with a FACE outside: INDEX of all FACES, together, less MIDDLE of all LETTERS, together, less twice the INDEX"
        + " of that FACE.");
    OneStrokes x = with(SPIRAL, "", "aa", "abab");
    int[] down = {-7, -9, -5, -3, -1, 1, 3, 5, 7, 9};
    for (int f = 0; f < 10; f++) due("eight letters, face " + f, x.face(0, f, 3), 100 + down[f]);
    due("without letters, the left", x.face(1, 0, 3), 99);
    due("without letters, the right", x.face(1, 1, 3), 101);
    for (int f = 0; f < 3; f++) due("one letter, face " + f, x.face(2, f, 3), 100 + new int[] {0, -2, 2}[f]);
    due("not plane", x.face(3, 0, 3), NONE);
  }

  private static void trees() {
    says(TERMS, "TREES of the DARK: how many SETS of LETTERS there are, each of which joins the two DARK CORNERS' FACES that it has,"
        + " by which all DARK FACES hang together, and by no fewer of them; of the LIGHT likewise.");
    OneStrokes x = with("abcabc", "abcadcbd", "abcabcdefdef", SPIRAL, "abab");
    int[] wants = {3, 5, 9, 1};
    for (int t = 0; t < 4; t++) {
      due("not plane, or plane by none", x.word(t, 9), t == 3 ? 1 : NONE);
      x.draw(t);
      due("dark of word " + t, x.word(t, 9), wants[t]);
      due("light of word " + t, x.word(t, 10), wants[t]);
    }
    due("not plane", x.word(4, 9), NONE);
    due("not plane", x.word(4, 10), NONE);
  }

  private static void treesOfOneFace() {
    says(TERMS, "(1, if there is one FACE of the kind.)");
    OneStrokes x = with("", "aa", EIGHT_LOOPS);
    for (int t = 0; t < 3; t++) {
      due("dark of word " + t, x.word(t, 9), 1);
      due("light of word " + t, x.word(t, 10), 1);
    }
    x.signs(1, 1);
    due("two dark faces now", x.word(1, 9), 1);
    due("one light face now", x.word(1, 10), 1);
  }

  private static void ringsOfASet() {
    says(TERMS, "RINGS of a SET of LETTERS that are TURNED: at each LETTER the STEP that comes to p goes on as that which leaves q,"
        + " that which comes to q as that which leaves p; if it is TURNED both that come are joined, and both that leave: so many"
        + " heaps of STEPS are joined.");
    OneStrokes x = with("aa", EIGHT_LOOPS, EIGHT);
    due("none turned", x.rings(0, 0), 2);
    due("turned", x.rings(0, 1), 1);
    due("beyond", x.rings(0, 2), UNKNOWN);
    for (int k = 0; k <= 8; k++) due(k + " turned", x.rings(1, (1 << k) - 1), 9 - k);
    due("one ring, none turned", x.rings(2, 0), 1);
    due("all turned", x.rings(2, 255), 8);
    due("beyond", x.rings(2, 256), UNKNOWN);
    OneStrokes y = with("abcdefdgaefchbgh", "abcdefeadggbhfch");
    due("joined by way of many others", y.rings(0, 226), 1);
    due("joined by way of many others", y.rings(1, 176), 2);
  }

  private static void ringsWithoutLetters() {
    says(TERMS, "(1 without LETTERS.)");
    OneStrokes x = with("");
    due("the empty set", x.rings(0, 0), 1);
    due("none turned", x.word(0, 8), 1);
    due("sets of one ring", x.states(0, 1), 1);
    due("sets of two", x.states(0, 2), 0);
  }

  // ---- terms, part 4

  private static void turnedAbout() {
    says(TERMS, "MADE OTHERWISE: TURNED ABOUT: the row begins at a PLACE and is gone on, or back.");
    OneStrokes x = with("aabcbc");
    String[] rowsOn = {"aabcbc", "abcbca", "ababcc", "abaccb", "abccab", "abbcac"};
    String[] rowsBack = {"abcbca", "aabcbc", "abbcac", "abccab", "abaccb", "ababcc"};
    for (int i = 0; i < 6; i++) {
      x.turn(0, i, false);
      dueRow(x, 0, rowsOn[i]);
      x.undo(1);
      x.turn(0, i, true);
      dueRow(x, 0, rowsBack[i]);
      x.undo(1);
    }
    due("no place 6 of 6", x.turn(0, 6, false), UNKNOWN);
  }

  private static void loopInAStep() {
    says(TERMS, "A LOOP in a STEP: a new LETTER stands twice behind its PLACE.");
    String[] wants = {"abbcac", "abccab", "abaccb", "ababcc"};
    for (int step = 0; step < 4; step++) {
      OneStrokes x = with("abab");
      due("letters", x.twist(0, step), 3);
      dueRow(x, 0, wants[step]);
    }
    OneStrokes x = with("", SEVEN);
    x.twist(0, 0);
    dueRow(x, 0, "aa");
    due("the eighth", x.twist(1, 13), 8);
    dueRow(x, 1, SEVEN + "hh");
    due("a ninth", x.twist(1, 13), FULL);
  }

  private static void pokeOfTwoSteps() {
    says(TERMS, "A POKE of two STEPS: two new LETTERS x, y stand x y behind the PLACE of the first, behind that of the other x y (WAY 0),"
        + " or y x (WAY 1).");
    OneStrokes x = with("aa", "aa", "aa", "aa", "abab", "abab");
    x.poke(0, 0, 1, 0);
    dueRow(x, 0, "abcabc");
    x.poke(1, 0, 1, 1);
    dueRow(x, 1, "abcacb");
    x.poke(2, 1, 0, 0);
    dueRow(x, 2, "abcabc");
    x.poke(3, 1, 0, 1);
    dueRow(x, 3, "abcacb");
    x.poke(4, 3, 0, 0);
    dueRow(x, 4, "abcdadbc");
    x.poke(5, 3, 0, 1);
    dueRow(x, 5, "abcdadcb");
    OneStrokes y = with(SIX_LOOPS, SEVEN);
    due("the seventh and the eighth", y.poke(0, 11, 10, 0), 8);
    dueRow(y, 0, "aabbccddeefghfgh");
    due("an eighth and a ninth", y.poke(1, 0, 1, 0), FULL);
  }

  private static void loopTakenOut() {
    says(TERMS, "Taken out: a LOOP, a LETTER whose PLACES are neighbours in the ring;");
    OneStrokes x = with("aabcbc", "ababcc", "abcbca", "abcbac", "abaccb", "aa");
    due("the first places", x.untwist(0, 0), 2);
    dueRow(x, 0, "abab");
    due("the last places", x.untwist(1, 2), 2);
    dueRow(x, 1, "abab");
    due("the last place and the first", x.untwist(2, 0), 2);
    dueRow(x, 2, "abab");
    due("one away from that", x.untwist(3, 0), NOT);
    due("one between them", x.untwist(4, 0), NOT);
    due("the only one", x.untwist(5, 0), 0);
    dueRow(x, 5, "");
  }

  private static void pokeTakenOut() {
    says(TERMS, "a POKE, two LETTERS each PLACE of one of which is beside another PLACE of the other.");
    OneStrokes x = with("abcabc", "abacbc", "abcacb", "aabb", "abab", "abba");
    due("one way round", x.unpoke(0, 0, 1), 1);
    dueRow(x, 0, "aa");
    due("both beside one and the same place", x.unpoke(1, 0, 1), NOT);
    due("the last place and the first", x.unpoke(1, 0, 2), 1);
    due("one pair is not beside", x.unpoke(2, 0, 1), NOT);
    due("both beside one and the same, the later place", x.unpoke(2, 2, 0), NOT);
    due("and of it both are beside", x.unpoke(2, 0, 2), NOT);
    due("the other way round", x.unpoke(2, 1, 2), 1);
    for (int t = 3; t < 6; t++) {
      due("all letters of word " + t, x.unpoke(t, 1, 0), 0);
      dueRow(x, t, "");
    }
  }

  private static void slideOfThree() {
    says(TERMS, "A SLIDE of c, d, e: for x, y, z 0 or 1: PLACE x of c beside PLACE y of d, the other one of d beside PLACE z of e,"
        + " the other one of e beside the other one of c (PLACE 0 of a LETTER is the first): by the least 4 x and 2 y and z for which"
        + " it is so, LETTERS that are beside one another change PLACES in each of the three pairs.");
    OneStrokes x = with("abcabc", "aabbcc", "abbcca", "aabbccdd", "abacbc", "aabb");
    due("1 and 6 would do: 1", x.slide(0, 0, 1, 2), 1);
    dueRow(x, 0, "abbcca");
    due("the last place and the first", x.slide(1, 0, 1, 2), 4);
    dueRow(x, 1, "abcabc");
    due("0", x.slide(2, 0, 1, 2), 0);
    dueRow(x, 2, "abcabc");
    due("two pairs, not the third", x.slide(3, 0, 1, 2), NOT);
    due("pairs behind one another", x.slide(4, 0, 1, 2), 1);
    dueRow(x, 4, "abcbca");
    due("there are no three", x.slide(5, 0, 1, 2), UNKNOWN);
    OneStrokes y = with("aabbccddeefghfgh");
    due("the last three of eight", y.slide(0, 5, 6, 7), 1);
    dueRow(y, 0, "aabbccddeefgghhf");
    eachChoiceOfASlide();
  }

  /** The pairs ab, bc, ca apart from one another, one of them at times around the end: each choice is the only one somewhere. */
  private static void eachChoiceOfASlide() {
    String[] texts = {"abdbcecafdef", "abdcaebcfdef", "bcdabecafdef", "adcaecbfdefb", "adabebcfdefc", "cadabebcfdef", "bcdcaeabfdef", "cadbceabfdef"};
    String[] slid = {"badcbeacfdef", "badacecbfdef", "cbdbaeacfdef", "bdacebcfdefa", "cdbaecbfdefa", "acdbaecbfdef", "cbdacebafdef", "acdcbebafdef"};
    for (int choice = 0; choice < 8; choice++) {
      OneStrokes x = with(texts[choice]);
      int[] number = numbers(texts[choice]);
      due("choice in " + texts[choice], x.slide(0, number[0], number[1], number[2]), choice);
      dueRow(x, 0, numbered(slid[choice]));
    }
  }

  private static String turnedRound(String text) {
    return new StringBuilder(text).reverse().toString();
  }

  private static String numbered(String text) {
    StringBuilder met = new StringBuilder(), made = new StringBuilder();
    for (char s : text.toCharArray()) {
      if (met.indexOf("" + s) < 0) met.append(s);
      made.append((char) ('a' + met.indexOf("" + s)));
    }
    return made.toString();
  }

  /** The numbers of a, b, c in a text. */
  private static int[] numbers(String text) {
    String row = numbered(text);
    int[] numbers = new int[3];
    for (int i = 0; i < 3; i++) numbers[i] = row.charAt(text.indexOf('a' + i)) - 'a';
    return numbers;
  }

  private static void smoothed() {
    says(TERMS, "SMOOTHED, a LETTER: both its PLACES go, and what stands between them is turned the other way round.");
    OneStrokes x = with("aa", "aabb", "abbcac", "abcbca", "aabbcc", EIGHT);
    due("the only one", x.smooth(0, 0), 0);
    dueRow(x, 0, "");
    due("nothing between", x.smooth(1, 0), 1);
    dueRow(x, 1, "aa");
    due("some between", x.smooth(2, 0), 2);
    dueRow(x, 2, "abba");
    due("all between", x.smooth(3, 0), 2);
    dueRow(x, 3, "abab");
    due("the last two places", x.smooth(4, 2), 2);
    dueRow(x, 4, "aabb");
    due("the last letter of eight", x.smooth(5, 7), 7);
    dueRow(x, 5, "abcdefggfedcba");
    due("no letter 7 of 7", x.smooth(5, 7), UNKNOWN);
    OneStrokes y = with("abbcdcedfgfehgha", "abbcdcedfgfehgah");
    due("all fourteen between", y.smooth(0, 0), 7);
    dueRow(y, 0, "abacdbdecfefgg");
    due("thirteen between", y.smooth(1, 0), 7);
    dueRow(y, 1, "abcdadecfefggb");
  }

  private static void theSum() {
    says(TERMS, "THE SUM: the row of one, behind it that of another (perhaps the same).");
    OneStrokes x = with("", "abab", "aabb");
    due("both without letters", x.sum(0, 0), 3);
    dueRow(x, 3, "");
    due("the first without letters", x.sum(0, 1), 4);
    dueRow(x, 4, "abab");
    due("the other without letters", x.sum(1, 0), 5);
    dueRow(x, 5, "abab");
    x.undo(3);
    x.sum(1, 2);
    dueRow(x, 3, "ababccdd");
    x.sum(2, 1);
    dueRow(x, 4, "aabbcdcd");
    x.sum(1, 1);
    dueRow(x, 5, "ababcdcd");
  }

  private static void codes() {
    says(TERMS, "CODE: of all rows as it can be TURNED ABOUT, the least, LETTERS as figures of 8, the first the highest (0 without LETTERS).");
    OneStrokes x = with("", "aa", "abba", "aabb", EIGHT, SPIRAL);
    long[] wants = {0, 0, 9, 9, 5744368105847L, 718048024785L};
    for (int t = 0; t < 6; t++) due("word " + t, x.code(t), wants[t]);
    OneStrokes y = with("abcaddcb", "abcbdadc", "aabcdbdc");
    for (int t = 0; t < 3; t++) due("by trying all, word " + t, y.code(t), leastByTrying(row(y, t)));
    for (int i = 0; i < 8; i++) {
      y.turn(0, i, i % 2 == 0);
      due("however it is turned about", y.code(0), leastByTrying("abcaddcb"));
    }
  }

  private static long leastByTrying(String row) {
    long least = Long.MAX_VALUE;
    for (String text : new String[] {row, turnedRound(row)})
      for (int i = 0; i < row.length(); i++) {
        long code = 0;
        for (char s : numbered(text.substring(i) + text.substring(0, i)).toCharArray()) code = code * 8 + s - 'a';
        least = Math.min(least, code);
      }
    return least;
  }

  private static void kin() {
    says(TERMS, "KIN: by how many PLACES and ways it is the row as it stands (1 without LETTERS).");
    OneStrokes x = with("", "aa", "aabcdbdc", "aabb", EIGHT, SPIRAL);
    int[] wants = {1, 4, 1, 4, 32, 4};
    for (int t = 0; t < 6; t++) due("word " + t, x.word(t, 11), wants[t]);
  }

  private static void sameness() {
    says(TERMS, "SAME: as many LETTERS, and the same CODE.");
    OneStrokes x = with("", "aa", "", "aabb", "abba", "abab");
    due("same code, letters one more", x.same(0, 1), 0);
    due("without letters, both", x.same(0, 2), 1);
    due("another row, same code", x.same(3, 4), 1);
    due("as many letters, another code", x.same(3, 5), 0);
    due("unlike ones", x.told(1), 4);
  }

  // ---- terms, part 5

  private static void askedChangesNothing() {
    says(TERMS, "ASKED, nothing changes by it.");
    OneStrokes x = with("abcabc", "");
    x.signs(0, 2);
    x.write(0, 3);
    type(x, "b!");
    feed(x, "cc");
    List<Long> ahead = seen(x);
    for (int t = -1; t <= 2; t++) {
      x.code(t);
      x.at(t, 1);
      for (int k = 0; k <= 10; k++) x.states(t, k);
      for (int what = 0; what <= 8; what++) x.letter(t, 1, what);
      for (int what = 0; what <= 4; what++) x.face(t, 1, what);
      x.rings(t, 1);
      x.same(t, 0);
    }
    if (ahead.equals(seen(x))) passed++;
    else wrong("something is otherwise than ahead of what was asked");
    due("the text is as it was", x.tell(), 2);
    due("what can be undone", x.undo(2), 2);
    due("signs as ahead of it", x.word(0, 3), 0);
  }

  private static void theBook() {
    says(TERMS, "THE BOOK (20 at most) tells how many SETS TURNED have one RING in a WORD: WRONG: the first that is otherwise now"
        + " (a WORD that there is no more: it is, too); NONE.");
    OneStrokes x = with("abcabc", "abab");
    due("without entries", x.told(4), NONE);
    for (int i = 1; i <= 19; i++) due("entry " + i, x.write(0, 3), i);
    due("none is wrong", x.told(4), NONE);
    due("the twentieth", x.write(1, 4), 20);
    due("one too many: the last is wrong", x.told(4), 19);
    due("a twenty-first", x.write(1, 3), FULL);
    x.smooth(0, 0);
    due("otherwise now", x.told(4), 0);
    x.undo(1);
    due("not otherwise again", x.told(4), 19);
    x.tear();
    x.write(1, 3);
    x.write(1, 2);
    due("one too few: wrong", x.told(4), 1);
    x.take(1);
    due("a word that there is no more", x.told(4), 0);
    x.undo(1);
    due("it is there again", x.told(4), 1);
    x.take(0);
    x.take(0);
    due("no words at all", x.told(4), 0);
  }

  /** The document's draws by whole numbers without a bound. */
  private static final class Draws {
    BigInteger seed;

    Draws(int seed) { this.seed = BigInteger.valueOf(seed); }

    int of(int n) {
      seed = seed.multiply(BigInteger.valueOf(1103515245)).add(BigInteger.valueOf(12345)).mod(BigInteger.TWO.pow(31));
      return seed.divide(BigInteger.valueOf(65536)).mod(BigInteger.valueOf(n)).intValue();
    }

    String row() {
      int n = of(7) + 2;
      char[] row = new char[2 * n];
      List<Integer> empty = new ArrayList<>();
      for (int i = 0; i < 2 * n; i++) empty.add(i);
      for (int i = 0; i < 2 * n; i++) row[empty.remove(of(2 * n - i))] = (char) ('a' + i / 2);
      return numbered(new String(row));
    }
  }

  private static void theSeed() {
    says(TERMS, "BY DRAWS: THE SEED (0 at first: each DRAW it becomes it times 1103515245 and 12345, left over by 2 to the 31; the DRAW"
        + " of n is it / 65536, left over by n):");
    due("at first", new OneStrokes().told(6), 0);
    for (int seed : new int[] {0, 1, 2, 65535, 65536, 1073741823, 1073741824, MOST - 1, MOST}) {
      OneStrokes x = new OneStrokes();
      Draws draws = new Draws(seed);
      x.seed(seed);
      for (int i = 0; i < 6; i++) {
        String want = draws.row();
        due("words", x.drift(1), i + 1);
        dueRow(x, i, want);
        due("seed from " + seed + " on", x.told(6), draws.seed.intValue());
      }
    }
  }

  private static void drawsWhileThereIsRoom() {
    says(TERMS, "n times, while there is room on THE SHELF:");
    for (int there = 3; there <= 6; there++) {
      OneStrokes x = new OneStrokes();
      for (int i = 0; i < there; i++) x.tell();
      Draws draws = new Draws(0);
      for (int i = there; i < Math.min(6, there + 2); i++) draws.row();
      due("two to " + there, x.drift(2), Math.min(6, there + 2));
      due("no draw for what has no room", x.told(6), draws.seed.intValue());
      due("times that can be undone", x.told(5), Math.min(6, there + 2));
    }
  }

  private static void lettersByADraw() {
    says(TERMS, "a DRAW of 7, and 2, is N;");
    boolean[] met = new boolean[9];
    for (int seed = 0; seed < 200; seed++) {
      int want = new Draws(seed).of(7) + 2;
      OneStrokes x = new OneStrokes();
      x.seed(seed);
      x.drift(1);
      due("letters by seed " + seed, x.word(0, 0), want);
      met[want] = true;
    }
    for (int n = 2; n <= 8; n++) due("a row of " + n + " letters was drawn", met[n] ? 1 : 0, 1);
  }

  private static void placesByDraws() {
    says(TERMS, "then for each of N LETTERS, twice: a DRAW of PLACES that are still empty: it stands at that one of these, from PLACE 0 on.");
    for (int seed = 200; seed < 260; seed++) {
      OneStrokes x = new OneStrokes();
      x.seed(seed);
      x.drift(1);
      dueRow(x, 0, new Draws(seed).row());
    }
  }

  private static void undone() {
    says(TERMS, "UNDONE: the latest deeds (tell(), signs(), draw(), turn(), twist(), untwist(), poke(), unpoke(), slide(), smooth(), sum(),"
        + " take(), each of the times BY DRAWS) since the IMAGE (16 at most are kept): THE SHELF is as ahead of them; THE SEED, THE BOOK,"
        + " what is typed stay.");
    for (int kind = 0; kind < 13; kind++) eachKindOfDeed(kind);
    for (int deeds = 15; deeds <= 17; deeds++) {
      OneStrokes x = with("abcdeabcde");
      x.keep(0);
      for (int i = 1; i <= deeds; i++) x.signs(0, i);
      due("after " + deeds, x.told(5), Math.min(16, deeds));
      due("one more than there are", x.undo(Math.min(16, deeds) + 1), deeds == 15 ? NOT : OUTSIDE);
      due("all that there are", x.undo(Math.min(16, deeds)), 1);
      due("signs as ahead of them", x.word(0, 3), Math.max(0, deeds - 16));
      due("nothing is left", x.undo(1), NOT);
    }
    whatStaysWhenUndone();
    againAndAgainUndone();
    fullShelfIsBack();
  }

  private static void fullShelfIsBack() {
    String[] rows = {"aa", "abab", "abcabc", "abcdabcd", "abcdeabcde", "abcdefabcdef"};
    for (int t = 0; t < 6; t++) {
      OneStrokes x = with(rows);
      x.keep(1);
      x.take(t);
      type(x, "");
      for (int i = 0; i < 6; i++) x.twist(i, 0);
      due("eight deeds undone", x.undo(8), 6);
      for (int i = 0; i < 6; i++) dueRow(x, i, rows[i]);
      x.take(t);
      type(x, "");
      due("the image", x.goBack(1), 1);
      for (int i = 0; i < 6; i++) dueRow(x, i, rows[i]);
    }
  }

  private static void eachKindOfDeed(int kind) {
    OneStrokes x = with("aabbcc", "abab");
    x.signs(0, 5);
    x.keep(0);
    feed(x, kind == 0 ? "dd" : "");
    doDeed(x, kind);
    due("deed " + kind + " counts", x.told(5), 1);
    due("deed " + kind + " is undone", x.undo(1), 2);
    dueRow(x, 0, "aabbcc");
    due("signs ahead of deed " + kind, x.word(0, 3), 5);
    dueRow(x, 1, "abab");
    due("no more than that", x.undo(1), NOT);
  }

  private static void doDeed(OneStrokes x, int kind) {
    switch (kind) {
      case 0: x.tell(); break;
      case 1: x.signs(0, 5); break;
      case 2: x.draw(0); break;
      case 3: x.turn(0, 0, false); break;
      case 4: x.twist(0, 5); break;
      case 5: x.untwist(0, 0); break;
      case 6: x.poke(0, 5, 0, 1); break;
      case 7: x.unpoke(1, 0, 1); break;
      case 8: x.slide(0, 0, 1, 2); break;
      case 9: x.smooth(0, 2); break;
      case 10: x.sum(0, 0); break;
      case 11: x.take(0); break;
      default: x.drift(1);
    }
  }

  private static void whatStaysWhenUndone() {
    OneStrokes x = with("abab");
    x.write(0, 3);
    x.drift(2);
    feed(x, "xyz");
    int seed = x.told(6);
    due("undone", x.undo(3), 0);
    due("the seed stays", x.told(6), seed);
    due("the book stays", x.told(3), 1);
    due("what is typed stays", x.told(2), 3);
    due("and is told", x.tell(), -14);
    due("its fault", x.fault(), 3);
  }

  /** What is kept of deeds goes round in a ring: far more deeds than are kept, undone by and by. */
  private static void againAndAgainUndone() {
    OneStrokes x = with("abcdefabcdef");
    x.keep(1);
    for (int round = 0; round < 5; round++) {
      for (int i = 1; i <= 10; i++) x.signs(0, 10 * round + i);
      due("three of ten", x.undo(3), 1);
      due("signs in round " + round, x.word(0, 3), 10 * round + 7);
    }
    due("three of 16 are undone", x.told(5), 13);
    for (int i = 0; i < 7; i++) x.undo(1);
    due("back by seven: those of the round ahead", x.word(0, 3), 37);
    due("six are left", x.undo(7), NOT);
    due("six are left", x.undo(6), 1);
    due("the oldest that is kept", x.word(0, 3), 31);
    due("none is left", x.told(5), 0);
  }

  private static void images() {
    says(TERMS, "IMAGES 0, 1 keep THE SHELF, THE SEED.");
    OneStrokes x = new OneStrokes();
    due("image 0, of an empty shelf", x.keep(0), 1);
    type(x, "abab");
    x.signs(0, 3);
    x.seed(MOST);
    due("image 1", x.keep(1), 1);
    due("image 2", x.keep(2), UNKNOWN);
    due("image -1", x.keep(-1), UNKNOWN);
    x.drift(6);
    x.write(0, 5);
    feed(x, "q");
    due("back to 0", x.goBack(0), 1);
    due("words", x.told(0), 0);
    due("seed", x.told(6), 0);
    due("back to 1", x.goBack(1), 1);
    due("words", x.told(0), 1);
    due("signs", x.word(0, 3), 3);
    dueRow(x, 0, "abab");
    due("seed", x.told(6), MOST);
    due("the book is not kept", x.told(3), 1);
    due("the text is not kept", x.told(2), 1);
  }

  // ---- promises: words

  private static void newObject() {
    says(1, "Nothing on THE SHELF.");
    OneStrokes x = new OneStrokes();
    for (int what = 0; what <= 6; what++) due("told " + what, x.told(what), what == 4 ? NONE : 0);
    due("no word 0", x.word(0, 0), UNKNOWN);
    due("none to take", x.take(0), UNKNOWN);
    due("nothing to undo", x.undo(1), NOT);
    due("no fault", x.fault(), NONE);
    due("image 0 is not kept", x.goBack(0), NOT);
    due("image 1 is not kept", x.goBack(1), NOT);
    due("no book", x.tear(), 0);
    due("the first word", x.tell(), 0);
    due("another object has its own", new OneStrokes().told(0), 0);
  }

  private static void feed() {
    says(2, "A letter (0 .. 255) comes behind THE TEXT: how many it has.");
    OneStrokes x = new OneStrokes();
    due("0", x.feed(0), 1);
    due("1", x.feed(1), 2);
    due("254", x.feed(254), 3);
    due("255", x.feed(255), 4);
    x.tell();
    due("behind it", x.feed('b') + x.feed('a') + x.feed('a') + x.feed('b'), 10);
    x.tell();
    dueRow(x, 0, "abba");
    due("the text is new", x.feed('a'), 1);
  }

  private static void feedRefused() {
    says(2, "OUTSIDE, FULL (20).");
    OneStrokes x = new OneStrokes();
    due("-1", x.feed(-1), OUTSIDE);
    due("256", x.feed(256), OUTSIDE);
    due("least", x.feed(LEAST), OUTSIDE);
    due("most", x.feed(MOST), OUTSIDE);
    due("nothing came", x.told(2), 0);
    for (int i = 1; i <= 20; i++) due("letter " + i, x.feed('a'), i);
    due("a twenty-first", x.feed('a'), FULL);
    due("twenty stay", x.told(2), 20);
    due("OUTSIDE is ahead of FULL", x.feed(256), OUTSIDE);
    x.tell();
    due("room again", x.feed('a'), 1);
  }

  private static void tell() {
    says(3, "THE TEXT (it is empty then, with a FAULT, too) is a WORD: its number; -10 less the number of its FAULT.");
    OneStrokes x = new OneStrokes();
    due("number 0", type(x, "aa"), 0);
    due("empty", x.told(2), 0);
    due("fault 1", type(x, "A"), -11);
    due("empty", x.told(2), 0);
    due("fault 2", type(x, "aaa"), -12);
    due("fault 3", type(x, "abcdefghi"), -13);
    due("fault 4", type(x, "a"), -14);
    due("no word comes of a fault", x.told(0), 1);
    due("nor is there more to undo", x.told(5), 1);
    due("an empty text", x.tell(), 1);
    due("of twenty letters", type(x, "aabbccddeeffgghhaabb"), -12);
    due("at place", x.fault(), 16);
  }

  private static void tellRefused() {
    says(3, "FULL (6; THE TEXT stays; ahead of FAULTS).");
    OneStrokes x = with("aa", "aa", "aa", "aa");
    type(x, "!");
    due("the fifth", type(x, "aa"), 4);
    due("the sixth", type(x, "aa"), 5);
    due("no fault by then", x.fault(), NONE);
    feed(x, "ab?");
    due("a seventh, with a fault", x.tell(), FULL);
    due("the text stays", x.told(2), 3);
    due("no fault is told", x.fault(), NONE);
    due("words", x.told(0), 6);
    due("what can be undone", x.told(5), 6);
    x.take(0);
    due("its fault when there is room", x.tell(), -11);
    due("at place", x.fault(), 2);
    x.tell();
    feed(x, "bb");
    due("a seventh, without a fault", x.tell(), FULL);
    x.take(0);
    due("the text stayed", x.tell(), 5);
    dueRow(x, 5, "aa");
  }

  private static void fault() {
    says(4, "The place (from 0 on) of the letter that has the FAULT of the latest tell() that was not FULL; NONE.");
    OneStrokes x = new OneStrokes();
    due("no tell() yet", x.fault(), NONE);
    type(x, "!a");
    due("the first letter", x.fault(), 0);
    feed(x, "aaaa");
    due("not by feed()", x.fault(), 0);
    x.tell();
    due("the third", x.fault(), 2);
    type(x, EIGHT_LOOPS + "iii!");
    due("the seventeenth of twenty", x.fault(), 16);
    type(x, "aabb");
    due("no fault", x.fault(), NONE);
    type(x, "aab");
    due("the end", x.fault(), 3);
    x.drift(6);
    feed(x, "?");
    due("FULL", x.tell(), FULL);
    due("that of the one ahead of it", x.fault(), 3);
    x.undo(1);
    due("not by undo()", x.fault(), 3);
    x.tell();
    due("the latest", x.fault(), 0);
  }

  private static void told() {
    says(5, "0 WORDS, 1 how many unlike ones (by SAME), 2 letters of THE TEXT, 3 entries of THE BOOK, 4 WRONG, 5 how many can be undone,"
        + " 6 THE SEED.");
    OneStrokes x = new OneStrokes();
    for (int n = 1; n <= 6; n++) {
      type(x, n % 2 == 0 ? "abba" : "aabb");
      due("words", x.told(0), n);
      due("unlike ones", x.told(1), 1);
    }
    x.take(5);
    x.tell();
    due("unlike ones", x.told(1), 2);
    for (int n = 1; n <= 20; n++) {
      x.feed('q');
      x.write(0, 1);
      due("letters", x.told(2), n);
      due("entries", x.told(3), n);
    }
    due("none is wrong", x.told(4), NONE);
    due("eight deeds", x.told(5), 8);
    for (int n = 9; n <= 18; n++) {
      x.signs(0, 1);
      due("deeds", x.told(5), Math.min(16, n));
    }
    x.seed(MOST);
    due("the seed", x.told(6), MOST);
    OneStrokes y = with("", "aa", "aabb", "abab", "aabbcc", "abcabc");
    due("all six are unlike", y.told(1), 6);
    for (int t = 0; t < 6; t++) for (int u = 0; u < t; u++) dueUnlike(t, u);
  }

  private static void dueUnlike(int t, int u) {
    String[] rows = {"", "aa", "aabb", "abab", "aabbcc", "abcabc"};
    rows[t] = rows[u];
    due("but words " + u + " and " + t, with(rows).told(1), 5);
  }

  private static void toldRefused() {
    says(5, "OUTSIDE.");
    OneStrokes x = new OneStrokes();
    due("-1", x.told(-1), OUTSIDE);
    due("0", x.told(0), 0);
    due("6", x.told(6), 0);
    due("7", x.told(7), OUTSIDE);
    due("least", x.told(LEAST), OUTSIDE);
    due("most", x.told(MOST), OUTSIDE);
  }

  private static void dueWord(OneStrokes x, int t, int... wants) {
    for (int what = 0; what < wants.length; what++) due("word " + t + ", what " + what, x.word(t, what), wants[what]);
  }

  private static void word() {
    says(6, "Of a WORD: what = 0 N, 1 PARTS, 2 BROKEN, 3 SIGNS, 4 FACES, 5 HANDLES, 6 DRAWN, 7 DRAWINGS, 8 RINGS of none TURNED,"
        + " 9, 10 TREES of the DARK, of the LIGHT (NONE: not PLANE), 11 KIN, 12 LETTERS that can be taken out as LOOPS (a SET),"
        + " 13, 14 FACES of SIZE 2, of SIZE 3.");
    OneStrokes x = with("", "aa", "aabb", "abba", "abab", "abcabc");
    dueWord(x, 0, 0, 0, 0, 0, 2, 0, 0, 1, 1, 1, 1, 1, 0, 0, 0);
    dueWord(x, 1, 1, 1, 0, 0, 3, 0, 0, 2, 2, 1, 1, 4, 1, 1, 0);
    dueWord(x, 2, 2, 2, 0, 0, 4, 0, 0, 4, 3, 1, 1, 4, 3, 1, 0);
    dueWord(x, 3, 2, 2, 0, 0, 4, 0, 0, 4, 3, 1, 1, 4, 3, 0, 2);
    dueWord(x, 4, 2, 1, 1, 0, 2, 1, NONE, 0, 1, NONE, NONE, 8, 0, 1, 0);
    dueWord(x, 5, 3, 1, 0, 0, 3, 1, 2, 2, 2, NONE, NONE, 12, 0, 1, 0);
    x.signs(5, 5);
    dueWord(x, 5, 3, 1, 0, 5, 5, 0, 2, 2, 2, 3, 3, 12, 0, 3, 2);
    OneStrokes y = with(SPIRAL, EIGHT_LOOPS);
    dueWord(y, 0, 8, 8, 0, 0, 10, 0, 0, 256, 9, 1, 1, 4, 129, 0, 2);
    dueWord(y, 1, 8, 8, 0, 0, 10, 0, 0, 256, 9, 1, 1, 16, 255, 0, 0);
  }

  private static void wordRefused() {
    says(6, "UNKNOWN, OUTSIDE.");
    OneStrokes x = with("aa", "abab");
    due("word -1", x.word(-1, 0), UNKNOWN);
    due("word 1 of 2", x.word(1, 0), 2);
    due("word 2 of 2", x.word(2, 0), UNKNOWN);
    due("least", x.word(LEAST, 0), UNKNOWN);
    due("most", x.word(MOST, 0), UNKNOWN);
    due("-1", x.word(0, -1), OUTSIDE);
    due("14", x.word(0, 14), 0);
    due("15", x.word(0, 15), OUTSIDE);
    due("least", x.word(0, LEAST), OUTSIDE);
    due("most", x.word(0, MOST), OUTSIDE);
    due("UNKNOWN is ahead", x.word(2, 15), UNKNOWN);
  }

  private static void code() {
    says(7, "CODE of a WORD.");
    OneStrokes x = with("", "aa", "aabb", EIGHT);
    due("without letters", x.code(0), 0);
    due("one letter", x.code(1), 0);
    due("two letters", x.code(2), 9);
    due("more than an int has", x.code(3), 5744368105847L);
  }

  private static void codeRefused() {
    says(7, "UNKNOWN.");
    OneStrokes x = with("aabb");
    due("-1", x.code(-1), UNKNOWN);
    due("0", x.code(0), 9);
    due("1 of 1", x.code(1), UNKNOWN);
    due("least", x.code(LEAST), UNKNOWN);
    due("most", x.code(MOST), UNKNOWN);
  }

  private static void at() {
    says(8, "The LETTER at PLACE i; NONE: there is no such PLACE.");
    OneStrokes x = with("", "aa", EIGHT);
    due("without letters", x.at(0, 0), NONE);
    due("place -1", x.at(1, -1), NONE);
    due("place 0", x.at(1, 0), 0);
    due("place 1 of 2", x.at(1, 1), 0);
    due("place 2 of 2", x.at(1, 2), NONE);
    due("place 15 of 16", x.at(2, 15), 7);
    due("place 16 of 16", x.at(2, 16), NONE);
    due("least", x.at(2, LEAST), NONE);
    due("most", x.at(2, MOST), NONE);
  }

  private static void atRefused() {
    says(8, "UNKNOWN.");
    OneStrokes x = with("aa");
    due("-1", x.at(-1, 0), UNKNOWN);
    due("1 of 1", x.at(1, 0), UNKNOWN);
    due("no word and no place", x.at(1, 2), UNKNOWN);
    due("least", x.at(LEAST, 0), UNKNOWN);
    due("most", x.at(MOST, 0), UNKNOWN);
  }

  private static void letter() {
    says(9, "Of a LETTER of a WORD: what = 0, 1 its PLACES, 2 LETTERS that are BETWEEN with it (a SET), 3 to 6 the FACE of CORNER 0 to 3,"
        + " 7 MIDDLE and 100 (NONE: not PLANE).");
    OneStrokes x = with("abcadcbd");
    x.draw(0);
    int[][] wants = {{0, 3, 6, 0, 1, 2, 3, 100}, {1, 6, 9, 4, 0, 3, 5, 99}, {2, 5, 9, 2, 4, 5, 3, 99}, {4, 7, 6, 2, 1, 0, 4, 100}};
    for (int c = 0; c < 4; c++)
      for (int what = 0; what < 8; what++) due("letter " + c + ", what " + what, x.letter(0, c, what), wants[c][what]);
    x.signs(0, 5);
    for (int c = 0; c < 4; c++) due("not plane", x.letter(0, c, 7), NONE);
    OneStrokes y = with(EIGHT, "aa");
    due("the last letter's last place", y.letter(0, 7, 1), 15);
    due("with all others", y.letter(0, 7, 2), 127);
    due("with none", y.letter(1, 0, 2), 0);
  }

  private static void letterRefused() {
    says(9, "UNKNOWN, OUTSIDE.");
    OneStrokes x = with("abab", "");
    due("letter -1", x.letter(0, -1, 0), UNKNOWN);
    due("letter 1 of 2", x.letter(0, 1, 0), 1);
    due("letter 2 of 2", x.letter(0, 2, 0), UNKNOWN);
    due("least", x.letter(0, LEAST, 0), UNKNOWN);
    due("most", x.letter(0, MOST, 0), UNKNOWN);
    due("without letters", x.letter(1, 0, 0), UNKNOWN);
    due("word -1", x.letter(-1, 0, 0), UNKNOWN);
    due("word 2 of 2", x.letter(2, 0, 0), UNKNOWN);
    due("what -1", x.letter(0, 0, -1), OUTSIDE);
    due("what 0", x.letter(0, 0, 0), 0);
    due("what 7", x.letter(0, 0, 7), NONE);
    due("what 8", x.letter(0, 0, 8), OUTSIDE);
    due("UNKNOWN is ahead", x.letter(0, 2, 8), UNKNOWN);
    due("UNKNOWN is ahead", x.letter(1, 0, -1), UNKNOWN);
  }

  private static void face() {
    says(10, "Of a FACE of a WORD: what = 0 SIZE, 1 1 DARK, 0 LIGHT, 2 INDEX and 100, 3 TURNS with it outside and 100 (1 to 3: NONE: not PLANE).");
    OneStrokes x = with("abcadcbd", "");
    x.signs(0, 11);
    int[][] wants = {{3, 1, 100, 99}, {3, 0, 99, 101}, {2, 1, 98, 103}, {3, 0, 99, 101}, {2, 0, 101, 97}, {3, 1, 100, 99}};
    for (int f = 0; f < 6; f++)
      for (int what = 0; what < 4; what++) due("face " + f + ", what " + what, x.face(0, f, what), wants[f][what]);
    int[][] bare = {{0, 1, 100, 99}, {0, 0, 99, 101}};
    for (int f = 0; f < 2; f++)
      for (int what = 0; what < 4; what++) due("without letters, face " + f + ", what " + what, x.face(1, f, what), bare[f][what]);
    due("fewer faces", x.signs(0, 10), 4);
    int sizes = 0;
    for (int f = 0; f < 4; f++) {
      sizes += x.face(0, f, 0);
      for (int what = 1; what < 4; what++) due("not plane, what " + what, x.face(0, f, what), NONE);
    }
    due("sizes are told of one that is not plane", sizes, 16);
  }

  private static void faceRefused() {
    says(10, "UNKNOWN, OUTSIDE.");
    OneStrokes x = with("aa", "abab", "");
    due("face -1", x.face(0, -1, 0), UNKNOWN);
    due("face 2 of 3", x.face(0, 2, 0), 1);
    due("face 3 of 3", x.face(0, 3, 0), UNKNOWN);
    due("face 1 of 2", x.face(1, 1, 0), 2);
    due("face 2 of 2", x.face(1, 2, 0), UNKNOWN);
    due("face 2 of 2 without letters", x.face(2, 2, 0), UNKNOWN);
    due("least", x.face(0, LEAST, 0), UNKNOWN);
    due("most", x.face(0, MOST, 0), UNKNOWN);
    due("word -1", x.face(-1, 0, 0), UNKNOWN);
    due("word 3 of 3", x.face(3, 0, 0), UNKNOWN);
    due("what -1", x.face(0, 0, -1), OUTSIDE);
    due("what 3", x.face(0, 0, 3), 100);
    due("what 4", x.face(0, 0, 4), OUTSIDE);
    due("what 4 of one that is not plane", x.face(1, 0, 4), OUTSIDE);
    due("UNKNOWN is ahead", x.face(0, 3, 4), UNKNOWN);
  }

  private static void rings() {
    says(11, "RINGS of a SET of LETTERS of a WORD, TURNED.");
    OneStrokes x = with("abcabc", "");
    int[] wants = {2, 1, 1, 2, 1, 2, 2, 3};
    for (int set = 0; set < 8; set++) due("set " + set, x.rings(0, set), wants[set]);
    due("without letters", x.rings(1, 0), 1);
  }

  private static void ringsRefused() {
    says(11, "UNKNOWN (also of other bits).");
    OneStrokes x = with("abcabc", EIGHT, "");
    due("bit 2 of 3", x.rings(0, 4), 1);
    due("bit 3 of 3", x.rings(0, 8), UNKNOWN);
    due("bit 3 with others", x.rings(0, 15), UNKNOWN);
    due("-1", x.rings(0, -1), UNKNOWN);
    due("bit 31 alone", x.rings(0, LEAST), UNKNOWN);
    due("most", x.rings(0, MOST), UNKNOWN);
    due("255 of 8 letters", x.rings(1, 255), 8);
    due("256 of 8 letters", x.rings(1, 256), UNKNOWN);
    due("bit 0 without letters", x.rings(2, 1), UNKNOWN);
    due("word -1", x.rings(-1, 0), UNKNOWN);
    due("word 3 of 3", x.rings(3, 0), UNKNOWN);
  }

  private static void states() {
    says(12, "How many SETS TURNED have k RINGS (1 .. 9).");
    OneStrokes x = with("", "aa", EIGHT_LOOPS, EIGHT);
    int[][] wants = {{1, 0, 0, 0, 0, 0, 0, 0, 0}, {1, 1, 0, 0, 0, 0, 0, 0, 0}, {1, 8, 28, 56, 70, 56, 28, 8, 1}, {9, 28, 56, 70, 56, 28, 8, 1, 0}};
    for (int t = 0; t < 4; t++)
      for (int k = 1; k <= 9; k++) due("word " + t + ", k " + k, x.states(t, k), wants[t][k - 1]);
  }

  private static void statesRefused() {
    says(12, "UNKNOWN, OUTSIDE.");
    OneStrokes x = with("aa");
    due("k 0", x.states(0, 0), OUTSIDE);
    due("k 1", x.states(0, 1), 1);
    due("k 9", x.states(0, 9), 0);
    due("k 10", x.states(0, 10), OUTSIDE);
    due("least", x.states(0, LEAST), OUTSIDE);
    due("most", x.states(0, MOST), OUTSIDE);
    due("word -1", x.states(-1, 1), UNKNOWN);
    due("word 1 of 1", x.states(1, 1), UNKNOWN);
    due("UNKNOWN is ahead", x.states(1, 10), UNKNOWN);
  }

  private static void same() {
    says(13, "Of two WORDS (perhaps the same): 1 SAME, 0 not.");
    OneStrokes x = with("aabb", "abba", "abab", "", "aa", "");
    due("itself", x.same(2, 2), 1);
    due("itself without letters", x.same(3, 3), 1);
    due("turned about", x.same(0, 1), 1);
    due("the other first", x.same(1, 0), 1);
    due("not", x.same(0, 2), 0);
    due("two without letters", x.same(3, 5), 1);
    due("codes alike, letters not as many", x.same(3, 4), 0);
    x.signs(0, 3);
    due("signs do not count", x.same(0, 1), 1);
  }

  private static void sameRefused() {
    says(13, "UNKNOWN.");
    OneStrokes x = with("aa", "aa");
    due("the last", x.same(0, 1), 1);
    due("word 2 of 2", x.same(0, 2), UNKNOWN);
    due("word 2 of 2", x.same(2, 0), UNKNOWN);
    due("word -1", x.same(-1, 0), UNKNOWN);
    due("word -1", x.same(0, -1), UNKNOWN);
    due("the same, which there is not", x.same(2, 2), UNKNOWN);
    due("least, most", x.same(LEAST, MOST), UNKNOWN);
  }

  // ---- promises: deeds

  private static void signs() {
    says(14, "SIGNS of a WORD: FACES then.");
    OneStrokes x = with("abcabc", "", EIGHT_LOOPS);
    due("least", x.signs(0, 0), 3);
    due("most", x.signs(0, 7), 3);
    due("then", x.word(0, 3), 7);
    due("plane", x.signs(0, 5), 5);
    due("then", x.word(0, 4), 5);
    due("without letters", x.signs(1, 0), 2);
    due("255", x.signs(2, 255), 10);
    due("then", x.word(2, 3), 255);
  }

  private static void signsRefused() {
    says(14, "UNKNOWN (the WORD, other bits).");
    OneStrokes x = with("abcabc", EIGHT_LOOPS, "");
    x.signs(0, 7);
    due("bit 3 of 3", x.signs(0, 8), UNKNOWN);
    due("-1", x.signs(0, -1), UNKNOWN);
    due("bit 31 alone", x.signs(0, LEAST), UNKNOWN);
    due("most", x.signs(0, MOST), UNKNOWN);
    due("as they were", x.word(0, 3), 7);
    due("256 of 8 letters", x.signs(1, 256), UNKNOWN);
    due("bit 0 without letters", x.signs(2, 1), UNKNOWN);
    due("word -1", x.signs(-1, 0), UNKNOWN);
    due("word 3 of 3", x.signs(3, 0), UNKNOWN);
    due("no deeds", x.told(5), 4);
  }

  private static void draw() {
    says(15, "SIGNS become those of DRAWN: these.");
    OneStrokes x = with("abcabc", "", EIGHT_LOOPS, SEVEN);
    x.signs(0, 5);
    due("the least, though it is plane", x.draw(0), 2);
    due("signs", x.word(0, 3), 2);
    due("once more", x.draw(0), 2);
    due("without letters", x.draw(1), 0);
    x.signs(2, 255);
    due("none of eight", x.draw(2), 0);
    due("signs", x.word(2, 3), 0);
    due("seven", x.draw(3), 42);
    dueRow(x, 3, SEVEN);
  }

  private static void drawRefused() {
    says(15, "UNKNOWN, NOT: there are none.");
    OneStrokes x = with("abab", "abcabc");
    x.signs(0, 3);
    due("none", x.draw(0), NOT);
    due("signs stay", x.word(0, 3), 3);
    due("word 1 of 2", x.draw(1), 2);
    due("word 2 of 2", x.draw(2), UNKNOWN);
    due("word -1", x.draw(-1), UNKNOWN);
    due("least", x.draw(LEAST), UNKNOWN);
    due("most", x.draw(MOST), UNKNOWN);
    due("deeds", x.told(5), 4);
  }

  private static void turn() {
    says(16, "TURNED ABOUT: it begins at PLACE i, and is gone on, or back: KIN.");
    OneStrokes x = with("aabcdbdc", EIGHT, "aa");
    due("kin of one without any", x.turn(0, 7, false), 1);
    dueRow(x, 0, "abbcadcd");
    due("on from place 0", x.turn(0, 0, false), 1);
    dueRow(x, 0, "abbcadcd");
    due("back from place 0", x.turn(0, 0, true), 1);
    dueRow(x, 0, "abcbacdd");
    due("most kin", x.turn(1, 15, true), 32);
    dueRow(x, 1, EIGHT);
    due("one letter", x.turn(2, 1, true), 4);
  }

  private static void turnRefused() {
    says(16, "UNKNOWN (the WORD; the PLACE; without LETTERS there is none).");
    OneStrokes x = with("abab", "");
    due("place 3 of 4", x.turn(0, 3, false), 8);
    due("place 4 of 4", x.turn(0, 4, false), UNKNOWN);
    due("place 4 of 4, back", x.turn(0, 4, true), UNKNOWN);
    due("place -1", x.turn(0, -1, true), UNKNOWN);
    due("least", x.turn(0, LEAST, true), UNKNOWN);
    due("most", x.turn(0, MOST, false), UNKNOWN);
    due("without letters, on", x.turn(1, 0, false), UNKNOWN);
    due("without letters, back", x.turn(1, 0, true), UNKNOWN);
    due("word -1", x.turn(-1, 0, false), UNKNOWN);
    due("word 2 of 2", x.turn(2, 0, false), UNKNOWN);
    due("deeds", x.told(5), 3);
  }

  private static void twist() {
    says(17, "A LOOP in a STEP: N.");
    OneStrokes x = with("");
    for (int n = 1; n <= 8; n++) due("to " + n, x.twist(0, 0), n);
    due("all are loops", x.word(0, 12), 255);
    OneStrokes y = with(SEVEN);
    due("in the last step", y.twist(0, 13), 8);
    due("it stands last", y.at(0, 15), 7);
    due("twice", y.at(0, 14), 7);
  }

  private static void twistRefused() {
    says(17, "UNKNOWN, FULL (8).");
    OneStrokes x = with(SEVEN, "");
    due("step 14 of 14", x.twist(0, 14), UNKNOWN);
    due("step -1", x.twist(0, -1), UNKNOWN);
    due("least", x.twist(0, LEAST), UNKNOWN);
    due("most", x.twist(0, MOST), UNKNOWN);
    due("step 1 without letters", x.twist(1, 1), UNKNOWN);
    due("word -1", x.twist(-1, 0), UNKNOWN);
    due("word 2 of 2", x.twist(2, 0), UNKNOWN);
    due("7 and 1", x.twist(0, 13), 8);
    due("8 and 1", x.twist(0, 15), FULL);
    due("UNKNOWN is ahead", x.twist(0, 16), UNKNOWN);
    due("8 stay", x.word(0, 0), 8);
    due("deeds", x.told(5), 3);
  }

  private static void untwist() {
    says(18, "A LOOP is taken out: N.");
    OneStrokes x = with(SPIRAL, "aa");
    due("around the end", x.untwist(0, 0), 7);
    dueRow(x, 0, "abcdefggfedcba");
    for (int n = 6; n >= 0; n--) due("the inmost", x.untwist(0, n), n);
    dueRow(x, 0, "");
    due("the only one", x.untwist(1, 0), 0);
  }

  private static void untwistRefused() {
    says(18, "UNKNOWN, NOT: the LETTER's PLACES are no neighbours.");
    OneStrokes x = with("abccbadd", "", "abaccb");
    due("two between", x.untwist(0, 1), NOT);
    due("one between", x.untwist(2, 0), NOT);
    due("letter 4 of 4", x.untwist(0, 4), UNKNOWN);
    due("letter -1", x.untwist(0, -1), UNKNOWN);
    due("least", x.untwist(0, LEAST), UNKNOWN);
    due("most", x.untwist(0, MOST), UNKNOWN);
    due("without letters", x.untwist(1, 0), UNKNOWN);
    due("word -1", x.untwist(-1, 0), UNKNOWN);
    due("word 3 of 3", x.untwist(3, 0), UNKNOWN);
    due("neighbours", x.untwist(0, 2), 3);
    due("now they are", x.untwist(0, 1), 2);
    due("deeds", x.told(5), 5);
  }

  private static void poke() {
    says(19, "A POKE of two unlike STEPS: N.");
    OneStrokes x = with("aa", SIX_LOOPS);
    due("1 and 2", x.poke(0, 0, 1, 0), 3);
    due("3 and 2", x.poke(0, 5, 0, 1), 5);
    due("5 and 2", x.poke(0, 9, 8, 0), 7);
    due("6 and 2", x.poke(1, 0, 11, 1), 8);
    dueRow(x, 1, "abcaddeeffgghhcb");
  }

  private static void pokeRefused() {
    says(19, "UNKNOWN, OUTSIDE (WAY), FULL (above 8).");
    OneStrokes x = with("aabb", SEVEN, "", SIX_LOOPS, EIGHT);
    due("one step twice", x.poke(0, 3, 3, 0), UNKNOWN);
    due("step 4 of 4", x.poke(0, 4, 0, 0), UNKNOWN);
    due("other step 4 of 4", x.poke(0, 0, 4, 0), UNKNOWN);
    due("step -1", x.poke(0, -1, 0, 0), UNKNOWN);
    due("other step -1", x.poke(0, 0, -1, 0), UNKNOWN);
    due("without letters", x.poke(2, 0, 0, 0), UNKNOWN);
    due("without letters", x.poke(2, 0, 1, 0), UNKNOWN);
    due("word -1", x.poke(-1, 0, 1, 0), UNKNOWN);
    due("word 5 of 5", x.poke(5, 0, 1, 0), UNKNOWN);
    due("way -1", x.poke(0, 0, 1, -1), OUTSIDE);
    due("way 2", x.poke(0, 0, 1, 2), OUTSIDE);
    due("least", x.poke(0, 0, 1, LEAST), OUTSIDE);
    due("most", x.poke(0, 0, 1, MOST), OUTSIDE);
    due("UNKNOWN is ahead of OUTSIDE", x.poke(0, 3, 3, 2), UNKNOWN);
    due("OUTSIDE is ahead of FULL", x.poke(1, 0, 1, 2), OUTSIDE);
    due("UNKNOWN is ahead of FULL", x.poke(1, 0, 14, 1), UNKNOWN);
    due("8 and 2", x.poke(4, 0, 1, 1), FULL);
    due("7 and 2", x.poke(1, 0, 1, 1), FULL);
    due("6 and 2", x.poke(3, 0, 1, 1), 8);
    due("way 0", x.poke(0, 0, 3, 0), 4);
    due("deeds", x.told(5), 7);
  }

  private static void unpoke() {
    says(20, "A POKE is taken out: N.");
    OneStrokes x = with("abab", EIGHT, "abacbc");
    due("2 less 2", x.unpoke(0, 0, 1), 0);
    due("8 less 2", x.unpoke(1, 0, 7), 6);
    dueRow(x, 1, "abcdefabcdef");
    due("3 less 2, around the end", x.unpoke(2, 2, 0), 1);
    due("as many as there were", undoPoke(), 2);
  }

  private static int undoPoke() {
    OneStrokes x = with("abab");
    x.poke(0, 2, 0, 1);
    int c = x.at(0, 1), d = x.at(0, 2);
    int left = x.unpoke(0, c, d);
    dueRow(x, 0, "abab");
    return left;
  }

  private static void unpokeRefused() {
    says(20, "UNKNOWN, NOT: it is none.");
    OneStrokes x = with("abacbc", "", "aa");
    due("letter 3 of 3", x.unpoke(0, 0, 3), UNKNOWN);
    due("letter 3 of 3", x.unpoke(0, 3, 0), UNKNOWN);
    due("letter -1", x.unpoke(0, -1, 0), UNKNOWN);
    due("letter -1", x.unpoke(0, 0, -1), UNKNOWN);
    due("one twice", x.unpoke(0, 1, 1), UNKNOWN);
    due("there is but one", x.unpoke(2, 0, 0), UNKNOWN);
    due("there is but one", x.unpoke(2, 0, 1), UNKNOWN);
    due("there is none", x.unpoke(1, 0, 1), UNKNOWN);
    due("word -1", x.unpoke(-1, 0, 1), UNKNOWN);
    due("word 3 of 3", x.unpoke(3, 0, 1), UNKNOWN);
    due("least, most", x.unpoke(0, LEAST, MOST), UNKNOWN);
    due("none", x.unpoke(0, 0, 1), NOT);
    due("none", x.unpoke(0, 1, 2), NOT);
    due("one", x.unpoke(0, 0, 2), 1);
  }

  private static void slide() {
    says(21, "A SLIDE: 4 x and 2 y and z.");
    OneStrokes x = with("abbcca", "aabbcc", "abcabc");
    due("0", x.slide(0, 0, 1, 2), 0);
    due("4", x.slide(1, 0, 1, 2), 4);
    due("1", x.slide(2, 0, 1, 2), 1);
    OneStrokes y = with("cadbceabfdef");
    due("7", y.slide(0, 1, 3, 0), 7);
  }

  private static void slideRefused() {
    says(21, "UNKNOWN, NOT: there is none.");
    OneStrokes x = with("aabbccdd", "aabb", "", "abbcca");
    due("letter 4 of 4, first", x.slide(0, 4, 0, 1), UNKNOWN);
    due("letter 4 of 4, second", x.slide(0, 0, 4, 1), UNKNOWN);
    due("letter 4 of 4, third", x.slide(0, 0, 1, 4), UNKNOWN);
    due("letter -1, first", x.slide(0, -1, 0, 1), UNKNOWN);
    due("letter -1, second", x.slide(0, 0, -1, 1), UNKNOWN);
    due("letter -1, third", x.slide(0, 0, 1, -1), UNKNOWN);
    due("first and second the same", x.slide(0, 1, 1, 0), UNKNOWN);
    due("first and third the same", x.slide(0, 1, 0, 1), UNKNOWN);
    due("second and third the same", x.slide(0, 0, 1, 1), UNKNOWN);
    due("all the same", x.slide(0, 1, 1, 1), UNKNOWN);
    due("there are but two", x.slide(1, 0, 1, 2), UNKNOWN);
    due("there is none", x.slide(2, 0, 1, 2), UNKNOWN);
    due("word -1", x.slide(-1, 0, 1, 2), UNKNOWN);
    due("word 4 of 4", x.slide(4, 0, 1, 2), UNKNOWN);
    due("none", x.slide(0, 0, 1, 2), NOT);
    due("none", x.slide(0, 1, 2, 3), NOT);
    due("one", x.slide(3, 0, 1, 2), 0);
    due("deeds", x.told(5), 5);
  }

  private static void smooth() {
    says(22, "SMOOTHED: N.");
    OneStrokes x = with(EIGHT, "aa");
    for (int n = 7; n >= 0; n--) due("to " + n, x.smooth(0, n), n);
    dueRow(x, 0, "");
    due("the only one", x.smooth(1, 0), 0);
  }

  private static void smoothRefused() {
    says(22, "UNKNOWN.");
    OneStrokes x = with("abab", "");
    due("letter 2 of 2", x.smooth(0, 2), UNKNOWN);
    due("letter -1", x.smooth(0, -1), UNKNOWN);
    due("least", x.smooth(0, LEAST), UNKNOWN);
    due("most", x.smooth(0, MOST), UNKNOWN);
    due("without letters", x.smooth(1, 0), UNKNOWN);
    due("word -1", x.smooth(-1, 0), UNKNOWN);
    due("word 2 of 2", x.smooth(2, 0), UNKNOWN);
    due("letter 1 of 2", x.smooth(0, 1), 1);
    due("deeds", x.told(5), 3);
  }

  private static void sum() {
    says(23, "THE SUM comes as a WORD: its number.");
    OneStrokes x = with("abab", "");
    x.signs(0, 3);
    due("behind the last", x.sum(0, 0), 2);
    dueRow(x, 2, "ababcdcd");
    due("8 letters", x.sum(2, 2), 3);
    dueRow(x, 3, "ababcdcdefefghgh");
    due("8 letters and none", x.sum(3, 1), 4);
    dueRow(x, 4, "ababcdcdefefghgh");
    due("none and 8 letters", x.sum(1, 3), 5);
    dueRow(x, 5, "ababcdcdefefghgh");
    due("what it is made of stays", x.word(0, 3), 3);
  }

  private static void sumRefused() {
    says(23, "UNKNOWN, FULL (above 8 LETTERS; 6 WORDS).");
    OneStrokes x = with("aabbccdd", "aabbccddee", "aa", "");
    due("9 letters", x.sum(0, 1), FULL);
    due("9 letters", x.sum(1, 0), FULL);
    due("word 4 of 4", x.sum(0, 4), UNKNOWN);
    due("word 4 of 4", x.sum(4, 0), UNKNOWN);
    due("word -1", x.sum(-1, 0), UNKNOWN);
    due("word -1", x.sum(0, -1), UNKNOWN);
    due("least, most", x.sum(LEAST, MOST), UNKNOWN);
    due("8 letters, the fifth word", x.sum(0, 0), 4);
    due("8 letters and 1", x.sum(4, 2), FULL);
    due("the sixth word", x.sum(4, 3), 5);
    due("a seventh", x.sum(3, 3), FULL);
    due("UNKNOWN is ahead", x.sum(6, 1), UNKNOWN);
    due("deeds", x.told(5), 6);
  }

  private static void take() {
    says(24, "A WORD goes: how many are left.");
    OneStrokes x = with("", "aa", "aabb", "aabbcc", "aabbccdd", EIGHT);
    x.signs(5, 255);
    due("the first of 6", x.take(0), 5);
    due("the last of 5", x.take(4), 4);
    due("one between", x.take(1), 3);
    int[] letters = {1, 3, 4};
    for (int t = 0; t < 3; t++) due("left, word " + t, x.word(t, 0), letters[t]);
    x.take(2);
    x.take(1);
    due("the only one", x.take(0), 0);
    due("brought back", x.undo(5), 5);
    due("with its signs", x.word(4, 3), 255);
  }

  private static void takeRefused() {
    says(24, "UNKNOWN.");
    OneStrokes x = with("aa");
    due("word -1", x.take(-1), UNKNOWN);
    due("word 1 of 1", x.take(1), UNKNOWN);
    due("least", x.take(LEAST), UNKNOWN);
    due("most", x.take(MOST), UNKNOWN);
    due("it is there", x.told(0), 1);
    due("word 0 of 1", x.take(0), 0);
    due("word 0 of none", x.take(0), UNKNOWN);
    due("deeds", x.told(5), 2);
  }

  private static void drift() {
    says(25, "n times BY DRAWS (1 .. 6): WORDS.");
    for (int n = 1; n <= 6; n++) {
      OneStrokes x = new OneStrokes();
      due(n + " times", x.drift(n), n);
      due("each can be undone", x.told(5), n);
      Draws draws = new Draws(0);
      for (int t = 0; t < n; t++) dueRow(x, t, draws.row());
      due("words on a full shelf", x.drift(6), 6);
      due("and once more", x.drift(1), 6);
      due("six deeds", x.told(5), 6);
    }
  }

  private static void driftRefused() {
    says(25, "OUTSIDE.");
    OneStrokes x = new OneStrokes();
    due("0", x.drift(0), OUTSIDE);
    due("-1", x.drift(-1), OUTSIDE);
    due("7", x.drift(7), OUTSIDE);
    due("least", x.drift(LEAST), OUTSIDE);
    due("most", x.drift(MOST), OUTSIDE);
    due("no draw", x.told(6), 0);
    due("no word", x.told(0), 0);
    due("6", x.drift(6), 6);
    due("7 on a full shelf", x.drift(7), OUTSIDE);
  }

  private static void undo() {
    says(26, "The n latest (1 .. 16) are undone: WORDS.");
    for (int n = 1; n <= 16; n++) {
      OneStrokes x = with("abcdeabcde");
      for (int i = 1; i <= 20; i++) x.signs(0, i);
      due(n + " of 16", x.undo(n), 1);
      due("signs back by " + n, x.word(0, 3), 20 - n);
      due("left", x.told(5), 16 - n);
      due("one more than is left", x.undo(17 - n), NOT);
      due("all that is left", n == 16 ? x.told(0) : x.undo(16 - n), 1);
      due("signs back by 16", x.word(0, 3), 4);
    }
    OneStrokes y = with("aa", "aa", "aa");
    due("the first word, too", y.undo(3), 0);
  }

  private static void undoRefused() {
    says(26, "OUTSIDE, NOT: not so many.");
    OneStrokes x = with("aa", "aa");
    due("0", x.undo(0), OUTSIDE);
    due("-1", x.undo(-1), OUTSIDE);
    due("17", x.undo(17), OUTSIDE);
    due("least", x.undo(LEAST), OUTSIDE);
    due("most", x.undo(MOST), OUTSIDE);
    due("3 of 2", x.undo(3), NOT);
    due("16 of 2", x.undo(16), NOT);
    due("none was undone", x.told(0), 2);
    due("2 of 2", x.undo(2), 0);
    due("1 of none", x.undo(1), NOT);
    due("OUTSIDE is ahead", x.undo(17), OUTSIDE);
  }

  // ---- promises: the book, images

  private static void write() {
    says(27, "An entry behind THE BOOK (so many, any): how many.");
    OneStrokes x = with("abcabc", "");
    due("as it is", x.write(0, 3), 1);
    due("without letters", x.write(1, 1), 2);
    due("none is wrong", x.told(4), NONE);
    due("least", x.write(0, LEAST), 3);
    due("most", x.write(0, MOST), 4);
    due("below none", x.write(0, -1), 5);
    due("the first that is wrong", x.told(4), 2);
    due("it is no deed", x.told(5), 2);
  }

  private static void writeRefused() {
    says(27, "UNKNOWN, FULL (20).");
    OneStrokes x = with("aa", "aa");
    due("word -1", x.write(-1, 1), UNKNOWN);
    due("word 2 of 2", x.write(2, 1), UNKNOWN);
    due("least", x.write(LEAST, 1), UNKNOWN);
    due("most", x.write(MOST, 1), UNKNOWN);
    due("no entries", x.told(3), 0);
    for (int i = 1; i <= 20; i++) due("entry " + i, x.write(1, 1), i);
    due("a twenty-first", x.write(1, 1), FULL);
    due("UNKNOWN is ahead", x.write(2, 1), UNKNOWN);
    due("twenty", x.told(3), 20);
  }

  private static void tear() {
    says(28, "No BOOK: how much it had.");
    OneStrokes x = with("aa");
    due("none", x.tear(), 0);
    x.write(0, 9);
    due("one", x.tear(), 1);
    due("no entries", x.told(3), 0);
    due("none is wrong", x.told(4), NONE);
    for (int i = 1; i <= 20; i++) x.write(0, i);
    due("twenty", x.tear(), 20);
    due("none is left", x.tear(), 0);
    due("the first again", x.write(0, 1), 1);
    due("the shelf stays", x.told(0), 1);
  }

  private static void seed() {
    says(29, "THE SEED becomes v (0 .. 2147483647): what it was.");
    OneStrokes x = new OneStrokes();
    due("most", x.seed(MOST), 0);
    due("one less", x.seed(MOST - 1), MOST);
    due("0", x.seed(0), MOST - 1);
    due("1", x.seed(1), 0);
    x.drift(1);
    Draws draws = new Draws(1);
    draws.row();
    due("what draws made of it", x.seed(5), draws.seed.intValue());
    due("it is no deed", x.told(5), 1);
  }

  private static void seedRefused() {
    says(29, "OUTSIDE.");
    OneStrokes x = new OneStrokes();
    x.seed(7);
    due("-1", x.seed(-1), OUTSIDE);
    due("least", x.seed(LEAST), OUTSIDE);
    due("it stays", x.told(6), 7);
    due("0", x.seed(0), 7);
  }

  private static void keep() {
    says(30, "IMAGE i becomes what is so (nothing can be undone then): 1.");
    OneStrokes x = with("aa");
    due("0", x.keep(0), 1);
    due("nothing can be undone", x.told(5), 0);
    due("nothing can be undone", x.undo(1), NOT);
    due("the shelf stays", x.told(0), 1);
    x.seed(3);
    type(x, "abab");
    due("1", x.keep(1), 1);
    due("nothing can be undone", x.told(5), 0);
    x.twist(0, 0);
    x.goBack(0);
    due("what was so", x.told(0), 1);
    due("its seed", x.told(6), 0);
    dueRow(x, 0, "aa");
    x.take(0);
    x.keep(0);
    x.goBack(1);
    due("image 1 stays", x.told(0), 2);
    dueRow(x, 0, "aa");
    due("its seed", x.told(6), 3);
    x.goBack(0);
    due("image 0 became another", x.told(0), 0);
  }

  private static void keepRefused() {
    says(30, "UNKNOWN.");
    OneStrokes x = with("aa");
    due("-1", x.keep(-1), UNKNOWN);
    due("2", x.keep(2), UNKNOWN);
    due("least", x.keep(LEAST), UNKNOWN);
    due("most", x.keep(MOST), UNKNOWN);
    due("it can still be undone", x.told(5), 1);
    due("none was kept", x.goBack(0), NOT);
    due("none was kept", x.goBack(1), NOT);
  }

  private static void goBack() {
    says(31, "What is so becomes IMAGE i (nothing can be undone then): 1.");
    OneStrokes x = with("abab", "aa");
    x.signs(0, 2);
    x.seed(9);
    x.keep(1);
    x.twist(0, 0);
    x.take(1);
    x.drift(5);
    due("back", x.goBack(1), 1);
    due("words", x.told(0), 2);
    dueRow(x, 0, "abab");
    due("signs", x.word(0, 3), 2);
    due("seed", x.told(6), 9);
    due("nothing can be undone", x.told(5), 0);
    due("nothing can be undone", x.undo(1), NOT);
    x.smooth(0, 0);
    due("one can", x.told(5), 1);
    due("once more", x.goBack(1), 1);
    dueRow(x, 0, "abab");
    due("nothing can be undone", x.undo(1), NOT);
  }

  private static void goBackRefused() {
    says(31, "UNKNOWN, NOT: it was not kept.");
    OneStrokes x = with("aa");
    due("0, not kept", x.goBack(0), NOT);
    due("1, not kept", x.goBack(1), NOT);
    due("-1", x.goBack(-1), UNKNOWN);
    due("2", x.goBack(2), UNKNOWN);
    due("least", x.goBack(LEAST), UNKNOWN);
    due("most", x.goBack(MOST), UNKNOWN);
    due("it can still be undone", x.told(5), 1);
    due("words", x.told(0), 1);
    x.keep(0);
    due("0, kept", x.goBack(0), 1);
    due("1, still not", x.goBack(1), NOT);
  }

  /** The document's terms and promises, and which of their words have a test. */
  private static final class Doc {
    private final List<Integer> sections = new ArrayList<>();
    private final List<StringBuilder> texts = new ArrayList<>();

    static Doc read() {
      Doc doc = new Doc();
      try {
        String all = Files.readString(Path.of("../shared/DOC.md"));
        doc.add(WHAT_IT_IS, part(all, "## What it is", "## The public face"));
        doc.add(TERMS, part(all, "## Terms", "Ahead of the calls").replaceAll("={8} \\d", " ").replaceAll("```\\w*", " "));
        for (int k = 1; k <= 31; k++) {
          String promise = part(all, "## Promise " + k + ":", k < 31 ? "## Promise " + (k + 1) + ":" : "## Not promised");
          doc.add(k, promise.substring(promise.indexOf("`: ") + 3));
        }
      } catch (IOException e) {
        throw new IllegalStateException("the document can't be read", e);
      }
      return doc;
    }

    private static String part(String all, String from, String until) {
      int start = all.indexOf(from), end = all.indexOf(until, start + 1);
      if (start < 0 || end < 0) throw new IllegalStateException("the document has no " + from);
      return all.substring(start + from.length(), end);
    }

    private void add(int section, String text) {
      sections.add(section);
      texts.add(new StringBuilder(text.replaceAll("\\s+", " ")));
    }

    /** Whether the words stand there without a test so far: from now on they have one. */
    boolean has(int section, String words) {
      StringBuilder text = texts.get(sections.indexOf(section));
      int start = text.indexOf(words);
      if (start >= 0) text.replace(start, start + words.length(), "");
      return start >= 0;
    }

    void dueToBeRead() {
      for (int i = 0; i < texts.size(); i++) {
        sentence = texts.get(i).toString().trim();
        if (sections.get(i) != WHAT_IT_IS && !sentence.isEmpty()) wrong("no test has these words");
      }
    }
  }
}
