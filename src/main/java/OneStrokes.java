/**
 * Closed curves drawn in one stroke, told as rows of letters in which each letter stands twice.
 * What each call answers is told in the document, promise by promise; README.md says how to run the tests.
 */
public final class OneStrokes {
    public static final int NONE = -1, UNKNOWN = -1000000001, OUTSIDE = -1000000002, NOT = -1000000003, FULL = -1000000004;

    private static final int MOST_LETTERS = 8, MOST_PLACES = 16, MOST_CORNERS = 32, MOST_RINGS = 9;
    private static final int MOST_WORDS = 6, MOST_TYPED = 20, MOST_ENTRIES = 20, MOST_UNDONE = 16;
    private static final int MOST_SIGN = 255, NO_FAULT = 0, FAULTS_BELOW = -10, INDEX_SHIFT = 100;

    private final Shelf shelf = new Shelf();
    private final Text text = new Text();
    private final Book book = new Book();
    private final History history = new History();
    private final Image[] images = {new Image(), new Image()};
    private final Draws draws = new Draws();
    // Rows are drafted and heaps are joined in these two, over and over, so that calls make few objects.
    private final Draft draft = new Draft();
    private final Heaps heaps = new Heaps();

    public OneStrokes() {
    }

    // ---- words

    public int feed(int letter) {
        if (letter < 0 || letter > MOST_SIGN) {
            return OUTSIDE;
        }
        return text.put(letter) ? text.length() : FULL;
    }

    public int tell() {
        if (shelf.isFull()) {
            return FULL;
        }
        int kind = text.judge();
        if (kind == NO_FAULT) {
            text.copyTo(draft);
        }
        text.clear();
        return kind == NO_FAULT ? comesAsWord() : FAULTS_BELOW - kind;
    }

    public int fault() {
        return text.faultPlace();
    }

    public int told(int what) {
        switch (what) {
            case 0: return shelf.count();
            case 1: return shelf.unlike();
            case 2: return text.length();
            case 3: return book.count();
            case 4: return book.firstWrong(shelf, heaps);
            case 5: return history.count();
            case 6: return draws.current();
            default: return OUTSIDE;
        }
    }

    public int word(int t, int what) {
        Word word = shelf.get(t);
        if (word == null) {
            return UNKNOWN;
        }
        Row row = word.row();
        switch (what) {
            case 0: return row.letterCount();
            case 1: return row.parts(heaps);
            case 2: return row.brokenLaw(heaps);
            case 3: return word.signSet();
            case 4: return word.faces(heaps).count();
            case 5: return word.faces(heaps).handles();
            case 6: return row.drawnSigns(heaps);
            case 7: return row.drawings(heaps);
            case 8: return row.ringsOf(0, heaps);
            case 9: return word.faces(heaps).trees(true, heaps);
            case 10: return word.faces(heaps).trees(false, heaps);
            case 11: return row.kin();
            case 12: return row.loops();
            case 13: return word.faces(heaps).countOfSize(2);
            case 14: return word.faces(heaps).countOfSize(3);
            default: return OUTSIDE;
        }
    }

    public long code(int t) {
        Word word = shelf.get(t);
        return word == null ? UNKNOWN : word.row().leastCode();
    }

    public int at(int t, int i) {
        Word word = shelf.get(t);
        return word == null ? UNKNOWN : word.row().letterOn(i);
    }

    public int letter(int t, int c, int what) {
        Word word = shelf.get(t);
        if (word == null || !word.row().hasLetter(c)) {
            return UNKNOWN;
        }
        switch (what) {
            case 0: return word.row().placeOf(c, 0);
            case 1: return word.row().placeOf(c, 1);
            case 2: return word.row().betweenSet(c);
            case 3: case 4: case 5: case 6: return word.faces(heaps).faceOf(c, what - 3);
            case 7: return word.faces(heaps).isPlane() ? word.faces(heaps).middle(c) + INDEX_SHIFT : NONE;
            default: return OUTSIDE;
        }
    }

    public int face(int t, int f, int what) {
        Word word = shelf.get(t);
        if (word == null || !word.faces(heaps).hasFace(f)) {
            return UNKNOWN;
        }
        if (what < 0 || what > 3) {
            return OUTSIDE;
        }
        Faces faces = word.faces(heaps);
        if (what == 0) {
            return faces.sizeOf(f);
        }
        if (!faces.isPlane()) {
            return NONE;
        }
        if (what == 1) {
            return faces.isDark(f) ? 1 : 0;
        }
        return (what == 2 ? faces.indexOf(f) : faces.turnsAround(f)) + INDEX_SHIFT;
    }

    public int rings(int t, int set) {
        Word word = shelf.get(t);
        if (word == null || !word.row().hasLetters(set)) {
            return UNKNOWN;
        }
        return word.row().ringsOf(set, heaps);
    }

    public int states(int t, int k) {
        Word word = shelf.get(t);
        if (word == null) {
            return UNKNOWN;
        }
        if (k < 1 || k > MOST_RINGS) {
            return OUTSIDE;
        }
        return word.row().setsWithRings(k, heaps);
    }

    public int same(int t, int u) {
        Word one = shelf.get(t);
        Word other = shelf.get(u);
        if (one == null || other == null) {
            return UNKNOWN;
        }
        return one.row().isLike(other.row()) ? 1 : 0;
    }

    // ---- deeds

    public int signs(int t, int set) {
        Word word = shelf.get(t);
        if (word == null || !word.row().hasLetters(set)) {
            return UNKNOWN;
        }
        Word signed = new Word(word.row(), set);
        becomes(t, signed);
        return signed.faces(heaps).count();
    }

    public int draw(int t) {
        Word word = shelf.get(t);
        if (word == null) {
            return UNKNOWN;
        }
        int drawn = word.row().drawnSigns(heaps);
        if (drawn == NONE) {
            return NOT;
        }
        becomes(t, new Word(word.row(), drawn));
        return drawn;
    }

    public int turn(int t, int i, boolean back) {
        Word word = shelf.get(t);
        if (word == null || !word.row().hasPlace(i)) {
            return UNKNOWN;
        }
        draft.writeTurned(word.row(), i, back);
        return becomesDraft(t).kin();
    }

    public int twist(int t, int step) {
        Word word = shelf.get(t);
        if (word == null || !word.row().hasStep(step)) {
            return UNKNOWN;
        }
        if (word.row().letterCount() + 1 > MOST_LETTERS) {
            return FULL;
        }
        draft.writeWithLoop(word.row(), step);
        return becomesDraft(t).letterCount();
    }

    public int untwist(int t, int c) {
        Word word = shelf.get(t);
        if (word == null || !word.row().hasLetter(c)) {
            return UNKNOWN;
        }
        if (!word.row().isLoop(c)) {
            return NOT;
        }
        draft.writeWithout(word.row(), 1 << c);
        return becomesDraft(t).letterCount();
    }

    public int poke(int t, int step, int other, int way) {
        Word word = shelf.get(t);
        if (word == null || !word.row().hasStep(step) || !word.row().hasStep(other) || step == other) {
            return UNKNOWN;
        }
        if (way < 0 || way > 1) {
            return OUTSIDE;
        }
        if (word.row().letterCount() + 2 > MOST_LETTERS) {
            return FULL;
        }
        draft.writeWithPoke(word.row(), step, other, way);
        return becomesDraft(t).letterCount();
    }

    public int unpoke(int t, int c, int d) {
        Word word = shelf.get(t);
        if (word == null || !word.row().hasLetter(c) || !word.row().hasLetter(d) || c == d) {
            return UNKNOWN;
        }
        if (!word.row().isPoke(c, d)) {
            return NOT;
        }
        draft.writeWithout(word.row(), 1 << c | 1 << d);
        return becomesDraft(t).letterCount();
    }

    public int slide(int t, int c, int d, int e) {
        Word word = shelf.get(t);
        if (word == null || !word.row().hasThree(c, d, e)) {
            return UNKNOWN;
        }
        int choice = word.row().slideChoice(c, d, e);
        if (choice == NONE) {
            return NOT;
        }
        draft.writeSlid(word.row(), c, d, e, choice);
        becomesDraft(t);
        return choice;
    }

    public int smooth(int t, int c) {
        Word word = shelf.get(t);
        if (word == null || !word.row().hasLetter(c)) {
            return UNKNOWN;
        }
        draft.writeSmoothed(word.row(), c);
        return becomesDraft(t).letterCount();
    }

    public int sum(int t, int u) {
        Word one = shelf.get(t);
        Word other = shelf.get(u);
        if (one == null || other == null) {
            return UNKNOWN;
        }
        if (shelf.isFull() || one.row().letterCount() + other.row().letterCount() > MOST_LETTERS) {
            return FULL;
        }
        draft.writeSum(one.row(), other.row());
        return comesAsWord();
    }

    public int take(int t) {
        if (shelf.get(t) == null) {
            return UNKNOWN;
        }
        history.remember(shelf);
        shelf.remove(t);
        return shelf.count();
    }

    public int drift(int n) {
        if (n < 1 || n > MOST_WORDS) {
            return OUTSIDE;
        }
        for (int time = 0; time < n && !shelf.isFull(); time++) {
            draws.writeRow(draft);
            comesAsWord();
        }
        return shelf.count();
    }

    public int undo(int n) {
        if (n < 1 || n > MOST_UNDONE) {
            return OUTSIDE;
        }
        return history.restore(n, shelf) ? shelf.count() : NOT;
    }

    // ---- the book

    public int write(int t, int v) {
        if (shelf.get(t) == null) {
            return UNKNOWN;
        }
        return book.put(t, v) ? book.count() : FULL;
    }

    public int tear() {
        return book.clear();
    }

    // ---- images

    public int seed(int v) {
        if (v < 0) {
            return OUTSIDE;
        }
        int before = draws.current();
        draws.restart(v);
        return before;
    }

    public int keep(int i) {
        if (i < 0 || i >= images.length) {
            return UNKNOWN;
        }
        images[i].store(shelf, draws.current());
        history.clear();
        return 1;
    }

    public int goBack(int i) {
        if (i < 0 || i >= images.length) {
            return UNKNOWN;
        }
        if (!images[i].isKept()) {
            return NOT;
        }
        shelf.copyFrom(images[i].shelf());
        draws.restart(images[i].seedThen());
        history.clear();
        return 1;
    }

    private int comesAsWord() {
        history.remember(shelf);
        shelf.add(new Word(new Row(draft), 0));
        return shelf.count() - 1;
    }

    private Row becomesDraft(int t) {
        Row row = new Row(draft);
        becomes(t, new Word(row, 0));
        return row;
    }

    private void becomes(int t, Word word) {
        history.remember(shelf);
        shelf.replace(t, word);
    }

    private static boolean isIn(int set, int k) {
        return (set >> k & 1) == 1;
    }

    private static boolean isEven(int number) {
        return (number & 1) == 0;
    }

    /** Things that hang together. The least thing of a heap stands for it, so heaps come in the order of their first things. */
    private static final class Heaps {
        private final int[] above = new int[MOST_CORNERS];
        private int things = 0;
        private int heapCount = 0;

        void scatter(int size) {
            things = Math.max(0, Math.min(size, above.length));
            heapCount = things;
            for (int i = 0; i < things; i++) {
                above[i] = i;
            }
        }

        int leastWith(int thing) {
            if (thing < 0 || thing >= things) {
                return NONE;
            }
            int i = thing;
            for (int climbed = 0; climbed < things && above[i] != i; climbed++) {
                i = above[i];
            }
            return i;
        }

        void join(int one, int other) {
            int a = leastWith(one);
            int b = leastWith(other);
            if (a != NONE && b != NONE && a != b) {
                above[Math.max(a, b)] = Math.min(a, b);
                heapCount--;
            }
        }

        int count() {
            return heapCount;
        }
    }

    /** Letters on their way to become a row; only which are alike counts, a Row numbers them anew. */
    private static final class Draft {
        private final int[] letters = new int[MOST_PLACES];
        private int length = 0;

        void clear() {
            length = 0;
        }

        void put(int letter) {
            if (length < letters.length) {
                letters[length] = letter;
                length++;
            }
        }

        int length() {
            return length;
        }

        int earlierTwin(int place) {
            if (place >= length) {
                return NONE;
            }
            for (int i = 0; i < place; i++) {
                if (letters[i] == letters[place]) {
                    return i;
                }
            }
            return NONE;
        }

        void makeEmptyPlaces(int size) {
            length = Math.max(0, Math.min(size, letters.length));
            for (int i = 0; i < length; i++) {
                letters[i] = NONE;
            }
        }

        void putInEmpty(int number, int letter) {
            int left = number;
            for (int i = 0; i < length; i++) {
                if (letters[i] == NONE) {
                    if (left == 0) {
                        letters[i] = letter;
                        return;
                    }
                    left--;
                }
            }
        }

        void writeTurned(Row row, int start, boolean back) {
            clear();
            int place = start;
            for (int i = 0; i < row.placeCount(); i++) {
                put(row.letterOn(place));
                place = back ? row.placeAhead(place) : row.placeBehind(place);
            }
        }

        void writeWithLoop(Row row, int step) {
            clear();
            int fresh = row.letterCount();
            if (row.placeCount() == 0) {
                putTwo(fresh, fresh);
            }
            for (int i = 0; i < row.placeCount(); i++) {
                put(row.letterOn(i));
                if (i == step) {
                    putTwo(fresh, fresh);
                }
            }
        }

        void writeWithPoke(Row row, int step, int other, int way) {
            clear();
            int x = row.letterCount();
            int y = x + 1;
            for (int i = 0; i < row.placeCount(); i++) {
                put(row.letterOn(i));
                if (i == step || i == other && way == 0) {
                    putTwo(x, y);
                } else if (i == other) {
                    putTwo(y, x);
                }
            }
        }

        private void putTwo(int one, int next) {
            put(one);
            put(next);
        }

        void writeWithout(Row row, int set) {
            clear();
            for (int i = 0; i < row.placeCount(); i++) {
                if (!isIn(set, row.letterOn(i))) {
                    put(row.letterOn(i));
                }
            }
        }

        void writeSlid(Row row, int c, int d, int e, int choice) {
            clear();
            putPlaces(row, 0, row.placeCount());
            int x = choice >> 2 & 1;
            int y = choice >> 1 & 1;
            int z = choice & 1;
            swap(row.placeOf(c, x), row.placeOf(d, y));
            swap(row.placeOf(d, 1 - y), row.placeOf(e, z));
            swap(row.placeOf(e, 1 - z), row.placeOf(c, 1 - x));
        }

        private void swap(int i, int j) {
            if (i >= 0 && i < length && j >= 0 && j < length) {
                int kept = letters[i];
                letters[i] = letters[j];
                letters[j] = kept;
            }
        }

        void writeSmoothed(Row row, int c) {
            int p = row.placeOf(c, 0);
            int q = row.placeOf(c, 1);
            clear();
            putPlaces(row, 0, p);
            for (int i = q - 1; i > p; i--) {
                put(row.letterOn(i));
            }
            putPlaces(row, q + 1, row.placeCount());
        }

        private void putPlaces(Row row, int from, int until) {
            for (int i = from; i < until; i++) {
                put(row.letterOn(i));
            }
        }

        void writeSum(Row one, Row other) {
            clear();
            putPlaces(one, 0, one.placeCount());
            for (int i = 0; i < other.placeCount(); i++) {
                // Past all letters of the first row, so that none of the two rows are taken for alike.
                put(other.letterOn(i) + MOST_LETTERS);
            }
        }
    }

    /** A row that never changes, and what is so of it whatever the signs; what costs much is found once and kept. */
    private static final class Row {
        private final int letterCount;
        private final int placeCount;
        private final int[] letterAt;
        private final int[] firstPlace;
        private final int[] laterPlace;
        private final int[] betweenSets;
        private boolean turnsTried = false;
        private long leastCode = 0;
        private int kin = 1;
        private boolean signsTried = false;
        private int drawnSigns = NONE;
        private int drawings = 0;
        private boolean ringsCounted = false;
        private final int[] setsByRings = new int[MOST_RINGS + 1];

        Row(Draft draft) {
            letterCount = draft.length() / 2;
            placeCount = 2 * letterCount;
            letterAt = new int[placeCount];
            firstPlace = new int[letterCount];
            laterPlace = new int[letterCount];
            betweenSets = new int[letterCount];
            int met = 0;
            for (int i = 0; i < placeCount; i++) {
                int twin = draft.earlierTwin(i);
                if (twin != NONE) {
                    letterAt[i] = letterAt[twin];
                    laterPlace[letterAt[i]] = i;
                } else if (met < letterCount) {
                    letterAt[i] = met;
                    firstPlace[met] = i;
                    met++;
                }
            }
            for (int c = 0; c < letterCount; c++) {
                for (int d = 0; d < letterCount; d++) {
                    if (standsOnceBetween(c, d)) {
                        betweenSets[c] |= 1 << d;
                    }
                }
            }
        }

        private boolean standsOnceBetween(int c, int d) {
            boolean first = firstPlace[c] < firstPlace[d] && firstPlace[d] < laterPlace[c];
            boolean later = firstPlace[c] < laterPlace[d] && laterPlace[d] < laterPlace[c];
            return first != later;
        }

        int letterCount() {
            return letterCount;
        }

        int placeCount() {
            return placeCount;
        }

        boolean hasLetter(int c) {
            return c >= 0 && c < letterCount;
        }

        boolean hasThree(int c, int d, int e) {
            return hasLetter(c) && hasLetter(d) && hasLetter(e) && c != d && d != e && e != c;
        }

        boolean hasLetters(int set) {
            return set >= 0 && set < 1 << letterCount;
        }

        boolean hasPlace(int i) {
            return i >= 0 && i < placeCount;
        }

        int stepCount() {
            return Math.max(1, placeCount);
        }

        boolean hasStep(int i) {
            return i >= 0 && i < stepCount();
        }

        int letterOn(int place) {
            return hasPlace(place) ? letterAt[place] : NONE;
        }

        int placeOf(int c, int which) {
            if (!hasLetter(c)) {
                return NONE;
            }
            return which == 0 ? firstPlace[c] : laterPlace[c];
        }

        boolean isFirstOfLetter(int place) {
            return hasPlace(place) && firstPlace[letterAt[place]] == place;
        }

        int placeBehind(int place) {
            return place + 1 < placeCount ? place + 1 : 0;
        }

        int placeAhead(int place) {
            return place > 0 ? place - 1 : placeCount - 1;
        }

        private boolean areBeside(int place, int other) {
            return placeBehind(place) == other || placeBehind(other) == place;
        }

        int betweenSet(int c) {
            return hasLetter(c) ? betweenSets[c] : 0;
        }

        private int sharedBetween(int c, int d) {
            return Integer.bitCount(betweenSet(c) & betweenSet(d));
        }

        int parts(Heaps heaps) {
            heaps.scatter(letterCount);
            for (int c = 0; c < letterCount; c++) {
                for (int d = 0; d < c; d++) {
                    if (isIn(betweenSets[c], d)) {
                        heaps.join(c, d);
                    }
                }
            }
            return heaps.count();
        }

        int brokenLaw(Heaps heaps) {
            if (!eachIsBetweenEvenly()) {
                return 1;
            }
            if (!eachTwoApartShareEvenly()) {
                return 2;
            }
            return sidesCanBeChosen(heaps) ? 0 : 3;
        }

        private boolean eachIsBetweenEvenly() {
            for (int c = 0; c < letterCount; c++) {
                if (!isEven(Integer.bitCount(betweenSets[c]))) {
                    return false;
                }
            }
            return true;
        }

        private boolean eachTwoApartShareEvenly() {
            for (int c = 0; c < letterCount; c++) {
                for (int d = 0; d < c; d++) {
                    if (!isIn(betweenSets[c], d) && !isEven(sharedBetween(c, d))) {
                        return false;
                    }
                }
            }
            return true;
        }

        /** Each letter counts twice, once for either side: the choice fails if its two sides fall into one heap. */
        private boolean sidesCanBeChosen(Heaps heaps) {
            heaps.scatter(2 * letterCount);
            for (int c = 0; c < letterCount; c++) {
                for (int d = 0; d < c; d++) {
                    if (isIn(betweenSets[c], d)) {
                        boolean unlike = isEven(sharedBetween(c, d));
                        heaps.join(2 * c, unlike ? 2 * d + 1 : 2 * d);
                        heaps.join(2 * c + 1, unlike ? 2 * d : 2 * d + 1);
                    }
                }
            }
            for (int c = 0; c < letterCount; c++) {
                if (heaps.leastWith(2 * c) == heaps.leastWith(2 * c + 1)) {
                    return false;
                }
            }
            return true;
        }

        long leastCode() {
            tryTurns();
            return leastCode;
        }

        int kin() {
            tryTurns();
            return kin;
        }

        boolean isLike(Row other) {
            tryTurns();
            other.tryTurns();
            return letterCount == other.letterCount && leastCode == other.leastCode;
        }

        private void tryTurns() {
            if (turnsTried || placeCount == 0) {
                return;
            }
            int[] names = new int[letterCount];
            long own = codeFrom(0, false, names);
            leastCode = own;
            kin = 0;
            for (int i = 0; i < placeCount; i++) {
                for (int way = 0; way < 2; way++) {
                    long code = codeFrom(i, way == 1, names);
                    leastCode = Math.min(leastCode, code);
                    if (code == own) {
                        kin++;
                    }
                }
            }
            turnsTried = true;
        }

        private long codeFrom(int start, boolean back, int[] names) {
            for (int c = 0; c < letterCount; c++) {
                names[c] = NONE;
            }
            int met = 0;
            int place = start;
            long code = 0;
            for (int i = 0; i < placeCount; i++) {
                int letter = letterAt[place];
                if (names[letter] == NONE) {
                    names[letter] = met;
                    met++;
                }
                code = code * 8 + names[letter];
                place = back ? placeAhead(place) : placeBehind(place);
            }
            return code;
        }

        int drawnSigns(Heaps heaps) {
            trySigns(heaps);
            return drawnSigns;
        }

        int drawings(Heaps heaps) {
            trySigns(heaps);
            return drawings;
        }

        private void trySigns(Heaps heaps) {
            if (signsTried) {
                return;
            }
            for (int set = 0; set < 1 << letterCount; set++) {
                if (Faces.countIn(this, set, heaps) == letterCount + 2) {
                    if (drawings == 0) {
                        drawnSigns = set;
                    }
                    drawings++;
                }
            }
            signsTried = true;
        }

        int ringsOf(int turned, Heaps heaps) {
            if (letterCount == 0) {
                return 1;
            }
            heaps.scatter(placeCount);
            for (int c = 0; c < letterCount; c++) {
                int leavesP = firstPlace[c];
                int leavesQ = laterPlace[c];
                int comesP = placeAhead(leavesP);
                int comesQ = placeAhead(leavesQ);
                boolean isTurned = isIn(turned, c);
                heaps.join(comesP, isTurned ? comesQ : leavesQ);
                heaps.join(leavesP, isTurned ? leavesQ : comesQ);
            }
            return heaps.count();
        }

        int setsWithRings(int k, Heaps heaps) {
            if (!ringsCounted) {
                for (int set = 0; set < 1 << letterCount; set++) {
                    int found = ringsOf(set, heaps);
                    if (found >= 0 && found < setsByRings.length) {
                        setsByRings[found]++;
                    }
                }
                ringsCounted = true;
            }
            return k >= 0 && k < setsByRings.length ? setsByRings[k] : 0;
        }

        boolean isLoop(int c) {
            return areBeside(placeOf(c, 0), placeOf(c, 1));
        }

        int loops() {
            int set = 0;
            for (int c = 0; c < letterCount; c++) {
                if (isLoop(c)) {
                    set |= 1 << c;
                }
            }
            return set;
        }

        boolean isPoke(int c, int d) {
            for (int y = 0; y < 2; y++) {
                if (areBeside(placeOf(c, 0), placeOf(d, y)) && areBeside(placeOf(c, 1), placeOf(d, 1 - y))) {
                    return true;
                }
            }
            return false;
        }

        int slideChoice(int c, int d, int e) {
            for (int choice = 0; choice < 8; choice++) {
                int x = choice >> 2 & 1;
                int y = choice >> 1 & 1;
                int z = choice & 1;
                if (areBeside(placeOf(c, x), placeOf(d, y))
                        && areBeside(placeOf(d, 1 - y), placeOf(e, z))
                        && areBeside(placeOf(e, 1 - z), placeOf(c, 1 - x))) {
                    return choice;
                }
            }
            return NONE;
        }
    }

    /** The faces of a row that is drawn by a set of signs. A corner's number is 4 times its letter, and k. */
    private static final class Faces {
        private final Row row;
        private final int count;
        private final int[] faceOfCorner;
        private final int[] sizes;
        private final int[] leftOfStep;
        private final int[] rightOfStep;
        private final int[] indexes;
        private final boolean plane;

        Faces(Row row, int signSet, Heaps heaps) {
            this.row = row;
            count = countIn(row, signSet, heaps);
            faceOfCorner = new int[4 * row.letterCount()];
            sizes = new int[count];
            leftOfStep = new int[row.stepCount()];
            rightOfStep = new int[row.stepCount()];
            indexes = new int[count];
            plane = count == row.letterCount() + 2;
            numberCorners(heaps);
            findSidesOfSteps(signSet);
            if (plane) {
                findIndexes();
            }
        }

        /** Joins the corners in heaps, and leaves them there; without letters the two faces have no corners. */
        static int countIn(Row row, int signSet, Heaps heaps) {
            heaps.scatter(4 * row.letterCount());
            for (int step = 0; step < row.placeCount(); step++) {
                int behind = row.placeBehind(step);
                int leaves = endLeaving(row, step, signSet);
                // The stroke goes straight on at a letter: it comes as the end that is across from where it leaves.
                int comes = endLeaving(row, behind, signSet) + 2;
                heaps.join(corner(row.letterOn(step), leaves), corner(row.letterOn(behind), comes - 1));
                heaps.join(corner(row.letterOn(step), leaves - 1), corner(row.letterOn(behind), comes));
            }
            return row.letterCount() == 0 ? 2 : heaps.count();
        }

        private static int endLeaving(Row row, int place, int signSet) {
            if (row.isFirstOfLetter(place)) {
                return 0;
            }
            return isIn(signSet, row.letterOn(place)) ? 3 : 1;
        }

        private static int corner(int letter, int k) {
            return 4 * letter + (k & 3);
        }

        private void numberCorners(Heaps heaps) {
            int numbered = 0;
            for (int i = 0; i < faceOfCorner.length; i++) {
                int first = heaps.leastWith(i);
                if (first >= 0 && first < i) {
                    faceOfCorner[i] = faceOfCorner[first];
                } else {
                    faceOfCorner[i] = numbered;
                    numbered++;
                }
                if (faceOfCorner[i] < count) {
                    sizes[faceOfCorner[i]]++;
                }
            }
        }

        private void findSidesOfSteps(int signSet) {
            if (row.letterCount() == 0) {
                rightOfStep[0] = 1;
            }
            for (int step = 0; step < row.placeCount(); step++) {
                int end = endLeaving(row, step, signSet);
                leftOfStep[step] = faceOf(row.letterOn(step), end);
                rightOfStep[step] = faceOf(row.letterOn(step), end - 1);
            }
        }

        private void findIndexes() {
            boolean[] known = new boolean[count];
            if (hasFace(0)) {
                known[0] = true;
            }
            // Each round comes at least one face further, so as many rounds as faces reach all.
            for (int round = 0; round < count; round++) {
                for (int step = 0; step < leftOfStep.length; step++) {
                    findIndexAcross(leftOfStep[step], rightOfStep[step], known);
                }
            }
        }

        private void findIndexAcross(int left, int right, boolean[] known) {
            if (!hasFace(left) || !hasFace(right)) {
                return;
            }
            if (known[left] && !known[right]) {
                indexes[right] = indexes[left] - 1;
                known[right] = true;
            } else if (known[right] && !known[left]) {
                indexes[left] = indexes[right] + 1;
                known[left] = true;
            }
        }

        int count() {
            return count;
        }

        int handles() {
            return (row.letterCount() + 2 - count) / 2;
        }

        boolean isPlane() {
            return plane;
        }

        boolean hasFace(int f) {
            return f >= 0 && f < count;
        }

        int faceOf(int letter, int k) {
            int i = corner(letter, k);
            return i >= 0 && i < faceOfCorner.length ? faceOfCorner[i] : 0;
        }

        int sizeOf(int f) {
            return hasFace(f) ? sizes[f] : 0;
        }

        int countOfSize(int size) {
            int found = 0;
            for (int f = 0; f < count; f++) {
                if (sizes[f] == size) {
                    found++;
                }
            }
            return found;
        }

        int indexOf(int f) {
            return hasFace(f) ? indexes[f] : 0;
        }

        boolean isDark(int f) {
            return isEven(indexOf(f) - indexOf(leftOfStep[0]));
        }

        int middle(int letter) {
            int together = 0;
            for (int k = 0; k < 4; k++) {
                together += indexOf(faceOf(letter, k));
            }
            return together / 4;
        }

        int turnsAround(int outside) {
            int turns = -2 * indexOf(outside);
            for (int f = 0; f < count; f++) {
                turns += indexes[f];
            }
            for (int c = 0; c < row.letterCount(); c++) {
                turns -= middle(c);
            }
            return turns;
        }

        /** A set is a tree if each of its letters joins what was apart, and there are as many as it takes. */
        int trees(boolean dark, Heaps heaps) {
            if (!plane) {
                return NONE;
            }
            int joins = countOfKind(dark) - 1;
            int found = 0;
            for (int set = 0; set < 1 << row.letterCount(); set++) {
                if (Integer.bitCount(set) == joins && heapsJoinedBy(set, dark, heaps) == count - joins) {
                    found++;
                }
            }
            return found;
        }

        private int countOfKind(boolean dark) {
            int found = 0;
            for (int f = 0; f < count; f++) {
                if (isDark(f) == dark) {
                    found++;
                }
            }
            return found;
        }

        private int heapsJoinedBy(int set, boolean dark, Heaps heaps) {
            heaps.scatter(count);
            for (int c = 0; c < row.letterCount(); c++) {
                if (isIn(set, c)) {
                    // Around a letter dark and light corners take turns.
                    int k = isDark(faceOf(c, 0)) == dark ? 0 : 1;
                    heaps.join(faceOf(c, k), faceOf(c, k + 2));
                }
            }
            return heaps.count();
        }
    }

    /** A row with signs; it never changes, so that shelves of other times may hold the same one. */
    private static final class Word {
        private final Row row;
        private final int signSet;
        private Faces faces = null;

        Word(Row row, int signSet) {
            this.row = row;
            this.signSet = signSet;
        }

        Row row() {
            return row;
        }

        int signSet() {
            return signSet;
        }

        Faces faces(Heaps heaps) {
            if (faces == null) {
                faces = new Faces(row, signSet, heaps);
            }
            return faces;
        }
    }

    private static final class Shelf {
        private final Word[] words = new Word[MOST_WORDS];
        private int count = 0;

        int count() {
            return count;
        }

        boolean isFull() {
            return count >= words.length;
        }

        Word get(int t) {
            return t >= 0 && t < count && t < words.length ? words[t] : null;
        }

        void add(Word word) {
            if (!isFull()) {
                words[count] = word;
                count++;
            }
        }

        void replace(int t, Word word) {
            if (t >= 0 && t < count) {
                words[t] = word;
            }
        }

        void remove(int t) {
            if (t >= 0 && t < count) {
                for (int i = t; i + 1 < count; i++) {
                    words[i] = words[i + 1];
                }
                count--;
            }
        }

        void copyFrom(Shelf other) {
            count = other.count();
            for (int i = 0; i < count; i++) {
                words[i] = other.get(i);
            }
        }

        int unlike() {
            int found = 0;
            for (int t = 0; t < count; t++) {
                if (!hasLikeAhead(t)) {
                    found++;
                }
            }
            return found;
        }

        private boolean hasLikeAhead(int t) {
            Word word = get(t);
            for (int i = 0; i < t; i++) {
                Word ahead = get(i);
                if (word != null && ahead != null && word.row().isLike(ahead.row())) {
                    return true;
                }
            }
            return false;
        }
    }

    /** The shelves as they were ahead of the latest deeds; the oldest makes room for a new one. */
    private static final class History {
        private final Shelf[] shelves = new Shelf[MOST_UNDONE];
        private int latest = 0;
        private int count = 0;

        void remember(Shelf shelf) {
            latest = (latest + 1) % MOST_UNDONE;
            if (shelves[latest] == null) {
                shelves[latest] = new Shelf();
            }
            shelves[latest].copyFrom(shelf);
            count = Math.min(count + 1, MOST_UNDONE);
        }

        boolean restore(int n, Shelf shelf) {
            if (n < 1 || n > count) {
                return false;
            }
            Shelf then = shelves[Math.floorMod(latest - n + 1, MOST_UNDONE)];
            if (then == null) {
                return false;
            }
            shelf.copyFrom(then);
            latest = Math.floorMod(latest - n, MOST_UNDONE);
            count -= n;
            return true;
        }

        int count() {
            return count;
        }

        void clear() {
            count = 0;
        }
    }

    private static final class Image {
        private final Shelf shelf = new Shelf();
        private int seedThen = 0;
        private boolean kept = false;

        void store(Shelf now, int seedNow) {
            shelf.copyFrom(now);
            seedThen = seedNow;
            kept = true;
        }

        boolean isKept() {
            return kept;
        }

        Shelf shelf() {
            return shelf;
        }

        int seedThen() {
            return seedThen;
        }
    }

    private static final class Text {
        private final int[] letters = new int[MOST_TYPED];
        private int length = 0;
        private int faultPlace = NONE;

        boolean put(int letter) {
            if (length >= letters.length) {
                return false;
            }
            letters[length] = letter;
            length++;
            return true;
        }

        int length() {
            return length;
        }

        int faultPlace() {
            return faultPlace;
        }

        void clear() {
            length = 0;
        }

        void copyTo(Draft draft) {
            draft.clear();
            for (int i = 0; i < length; i++) {
                draft.put(letters[i]);
            }
        }

        /** Answers which fault there is, and holds on to its place. */
        int judge() {
            int unlike = 0;
            for (int i = 0; i < length; i++) {
                int ahead = countOf(letters[i], i);
                if (ahead == 0) {
                    unlike++;
                }
                int kind = faultOfLetter(letters[i], ahead, unlike);
                if (kind != NO_FAULT) {
                    faultPlace = i;
                    return kind;
                }
            }
            boolean paired = 2 * unlike == length;
            faultPlace = paired ? NONE : length;
            return paired ? NO_FAULT : 4;
        }

        private static int faultOfLetter(int letter, int ahead, int unlike) {
            if (letter < 'a' || letter > 'z') {
                return 1;
            }
            if (ahead == 2) {
                return 2;
            }
            return unlike > MOST_LETTERS ? 3 : NO_FAULT;
        }

        private int countOf(int letter, int until) {
            int found = 0;
            for (int i = 0; i < until; i++) {
                if (letters[i] == letter) {
                    found++;
                }
            }
            return found;
        }
    }

    private static final class Book {
        private final int[] words = new int[MOST_ENTRIES];
        private final int[] counts = new int[MOST_ENTRIES];
        private int count = 0;

        boolean put(int t, int v) {
            if (count >= MOST_ENTRIES) {
                return false;
            }
            words[count] = t;
            counts[count] = v;
            count++;
            return true;
        }

        int count() {
            return count;
        }

        int clear() {
            int had = count;
            count = 0;
            return had;
        }

        int firstWrong(Shelf shelf, Heaps heaps) {
            for (int i = 0; i < count; i++) {
                Word word = shelf.get(words[i]);
                if (word == null || word.row().setsWithRings(1, heaps) != counts[i]) {
                    return i;
                }
            }
            return NONE;
        }
    }

    private static final class Draws {
        private int current = 0;

        int current() {
            return current;
        }

        void restart(int v) {
            current = v;
        }

        private int below(int n) {
            current = (int) ((current * 1103515245L + 12345L) & 0x7fffffffL);
            return n > 0 ? current / 65536 % n : 0;
        }

        void writeRow(Draft draft) {
            int letters = below(7) + 2;
            draft.makeEmptyPlaces(2 * letters);
            for (int i = 0; i < 2 * letters; i++) {
                draft.putInEmpty(below(2 * letters - i), i / 2);
            }
        }
    }
}
