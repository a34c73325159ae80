/** Maps of a few points to themselves, and everything that can be put together from some of them. */
public final class TransformMonoid {
    private static final int MIN_POINTS = 2;
    private static final int MAX_POINTS = 4;
    private static final int MAX_MAPS = 256;
    private static final int MAX_IMAGES = MAX_MAPS * MAX_POINTS;
    private static final int MAX_GENERATORS = 4;

    private static final int RIGHT = 0;
    private static final int LEFT = 1;
    private static final int TWO_SIDED = 2;

    private static final int NO_WORD = -1;

    private final int pointCount;
    private final int mapCount;
    private final int identity;
    private final int[] images = new int[MAX_IMAGES];

    private final int[] generators = new int[MAX_GENERATORS];
    private int generatorCount;

    private final int[] found = new int[MAX_MAPS];
    private int elementCount;
    private final int[] wordLength = new int[MAX_MAPS];
    private final int[] lastLetter = new int[MAX_MAPS];
    private final int[] shortened = new int[MAX_MAPS];

    // Room for the questions to work in; every question fills anew what it reads here.
    private final boolean[] reached = new boolean[MAX_MAPS];
    private final int[] waiting = new int[MAX_MAPS];
    private int reachedCount;
    private final int[] setSize = new int[MAX_MAPS];
    private final boolean[] classed = new boolean[MAX_MAPS];

    public TransformMonoid(int points) {
        pointCount = withinBounds(points);
        int maps = 1;
        int fixed = 0;
        for (int p = 0; p < pointCount; p++) {
            maps = maps * pointCount;
            fixed = fixed * pointCount + p;
        }
        mapCount = maps;
        identity = fixed;
        fillImages();
        findElements();
    }

    public int points() {
        return pointCount;
    }

    public int generate(int code) {
        if (!isGood(code)) {
            return -1;
        }
        if (generatorCount >= MAX_GENERATORS) {
            return -2;
        }
        int number = generatorCount;
        generators[number] = code;
        generatorCount++;
        findElements();
        return number;
    }

    public int drop() {
        if (generatorCount <= 0) {
            return -1;
        }
        generatorCount--;
        findElements();
        return generators[generatorCount];
    }

    public int product(int f, int g) {
        if (!isGood(f) || !isGood(g)) {
            return -1;
        }
        return multiply(f, g);
    }

    public int size() {
        return elementCount;
    }

    public int has(int code) {
        if (!isGood(code)) {
            return -1;
        }
        return isElement(code) ? 1 : 0;
    }

    public int element(int i) {
        int before = 0;
        for (int code = 0; code < mapCount; code++) {
            if (isElement(code)) {
                if (before == i) {
                    return code;
                }
                before++;
            }
        }
        return -1;
    }

    public int length(int code) {
        if (!isGood(code)) {
            return -1;
        }
        if (!isElement(code)) {
            return -2;
        }
        return wordLength[code];
    }

    public int letter(int code, int place) {
        if (!isGood(code)) {
            return -1;
        }
        if (!isElement(code)) {
            return -2;
        }
        if (place < 0 || place >= wordLength[code]) {
            return -3;
        }
        int prefix = code;
        for (int last = wordLength[code] - 1; last > place; last--) {
            prefix = shortened[prefix];
        }
        return lastLetter[prefix];
    }

    public int longest() {
        // Elements are found in rising order of length, so the last one has the longest word.
        return wordLength[found[elementCount - 1]];
    }

    public int idempotents() {
        int count = 0;
        for (int i = 0; i < elementCount; i++) {
            int code = found[i];
            if (multiply(code, code) == code) {
                count++;
            }
        }
        return count;
    }

    public int units() {
        // Some power of a permutation is its inverse, so every permutation in the monoid is a unit.
        int count = 0;
        for (int i = 0; i < elementCount; i++) {
            if (countImages(found[i]) == pointCount) {
                count++;
            }
        }
        return count;
    }

    public int rank(int code) {
        if (!isGood(code)) {
            return -1;
        }
        return countImages(code);
    }

    public int index(int code) {
        if (!isGood(code)) {
            return -1;
        }
        return firstRepeatedExponent(code);
    }

    public int period(int code) {
        if (!isGood(code)) {
            return -1;
        }
        int exponent = firstRepeatedExponent(code);
        int repeated = code;
        for (int k = 1; k < exponent; k++) {
            repeated = multiply(repeated, code);
        }
        return stepsToReturn(repeated, code);
    }

    public int classes(int kind) {
        if (!isKind(kind)) {
            return -1;
        }
        for (int i = 0; i < elementCount; i++) {
            int code = found[i];
            setSize[code] = fillSet(kind, code);
            classed[code] = false;
        }
        int count = 0;
        for (int i = 0; i < elementCount; i++) {
            int code = found[i];
            if (!classed[code]) {
                markClass(kind, code);
                count++;
            }
        }
        return count;
    }

    public int alike(int kind, int f, int g) {
        if (!isKind(kind)) {
            return -1;
        }
        if (!isElement(f) || !isElement(g)) {
            return -2;
        }
        // A set holds the set of each of its members, so two sets are the same
        // exactly if each of the two elements is in the set of the other.
        fillSet(kind, f);
        boolean forth = reached[g];
        fillSet(kind, g);
        boolean back = reached[f];
        return forth && back ? 1 : 0;
    }

    public int ideal(int kind, int code) {
        if (!isKind(kind)) {
            return -1;
        }
        if (!isElement(code)) {
            return -2;
        }
        return fillSet(kind, code);
    }

    public int kernel() {
        // Two-sided sets always meet, and what is in all of them is itself
        // the two-sided set of each of its members: it is the smallest one.
        int least = elementCount;
        for (int i = 0; i < elementCount; i++) {
            int members = fillSet(TWO_SIDED, found[i]);
            if (members < least) {
                least = members;
            }
        }
        return least;
    }

    public int commutes() {
        // If the generators commute with each other, so do all products of them.
        for (int i = 0; i < generatorCount; i++) {
            for (int j = 0; j < i; j++) {
                int forth = multiply(generators[i], generators[j]);
                int back = multiply(generators[j], generators[i]);
                if (forth != back) {
                    return 0;
                }
            }
        }
        return 1;
    }

    private static int withinBounds(int points) {
        if (points < MIN_POINTS) {
            return MIN_POINTS;
        }
        return points > MAX_POINTS ? MAX_POINTS : points;
    }

    private boolean isGood(int code) {
        return code >= 0 && code < mapCount;
    }

    private boolean isElement(int code) {
        return isGood(code) && wordLength[code] != NO_WORD;
    }

    private static boolean isKind(int kind) {
        return kind >= RIGHT && kind <= TWO_SIDED;
    }

    private void fillImages() {
        for (int code = 0; code < mapCount; code++) {
            int rest = code;
            for (int p = pointCount - 1; p >= 0; p--) {
                images[code * MAX_POINTS + p] = rest % pointCount;
                rest = rest / pointCount;
            }
        }
    }

    private int multiply(int f, int g) {
        int code = 0;
        for (int p = 0; p < pointCount; p++) {
            int between = images[f * MAX_POINTS + p];
            code = code * pointCount + images[g * MAX_POINTS + between];
        }
        return code;
    }

    private int countImages(int code) {
        int seen = 0;
        int count = 0;
        for (int p = 0; p < pointCount; p++) {
            int bit = 1 << images[code * MAX_POINTS + p];
            if ((seen & bit) == 0) {
                seen = seen | bit;
                count++;
            }
        }
        return count;
    }

    private void findElements() {
        for (int code = 0; code < mapCount; code++) {
            wordLength[code] = NO_WORD;
        }
        wordLength[identity] = 0;
        found[0] = identity;
        elementCount = 1;
        // Shorter words come first here, and of equally long ones the lesser:
        // the word by which an element is first met is therefore its own.
        for (int next = 0; next < mapCount && next < elementCount; next++) {
            for (int number = 0; number < generatorCount; number++) {
                extendWord(found[next], number);
            }
        }
    }

    private void extendWord(int from, int number) {
        int code = multiply(from, generators[number]);
        if (wordLength[code] == NO_WORD) {
            wordLength[code] = wordLength[from] + 1;
            lastLetter[code] = number;
            shortened[code] = from;
            found[elementCount] = code;
            elementCount++;
        }
    }

    /** The least m >= 1 with which power * code^m is power again, or 0 if it never is. */
    private int stepsToReturn(int power, int code) {
        int later = power;
        for (int m = 1; m <= mapCount; m++) {
            later = multiply(later, code);
            if (later == power) {
                return m;
            }
        }
        return 0;
    }

    private int firstRepeatedExponent(int code) {
        int power = code;
        // Among one power more than there are maps, two are the same: the bound is never passed.
        for (int k = 1; k <= mapCount; k++) {
            if (stepsToReturn(power, code) > 0) {
                return k;
            }
            power = multiply(power, code);
        }
        return mapCount;
    }

    /** Marks in reached the set of this kind of an element, and answers how many members it has. */
    private int fillSet(int kind, int start) {
        for (int code = 0; code < mapCount; code++) {
            reached[code] = false;
        }
        reachedCount = 0;
        reach(start);
        for (int next = 0; next < mapCount && next < reachedCount; next++) {
            int from = waiting[next];
            for (int number = 0; number < generatorCount; number++) {
                if (kind != LEFT) {
                    int after = multiply(from, generators[number]);
                    reach(after);
                }
                if (kind != RIGHT) {
                    int ahead = multiply(generators[number], from);
                    reach(ahead);
                }
            }
        }
        return reachedCount;
    }

    private void reach(int code) {
        if (!reached[code]) {
            reached[code] = true;
            waiting[reachedCount] = code;
            reachedCount++;
        }
    }

    private void markClass(int kind, int code) {
        fillSet(kind, code);
        for (int i = 0; i < elementCount; i++) {
            int other = found[i];
            // The set of a member lies within this one: with as many members it is the same set.
            if (reached[other] && setSize[other] == setSize[code]) {
                classed[other] = true;
            }
        }
    }
}
