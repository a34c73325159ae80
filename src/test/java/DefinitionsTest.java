import java.util.Arrays;

/** Holds every answer against the document's definitions, spelt out by brute force. */
public final class DefinitionsTest {
    private static final int CALLS_OF_AN_OBJECT = 512;
    private static int wrong = 0;

    /** Numbers that look mixed and are the same every time. */
    private static final class Mixed {
        private long state;

        Mixed(long seed) {
            state = seed;
        }

        int below(int bound) {
            state = state * 6364136223846793005L + 1442695040888963407L;
            return (int) ((state >>> 33) % bound);
        }
    }

    private final Definition want;
    private TransformMonoid asked;
    private int calls = CALLS_OF_AN_OBJECT;

    private DefinitionsTest(Definition want) {
        this.want = want;
    }

    /** The object for one more call: a new one when the document no longer binds the old. */
    private TransformMonoid x() {
        if (calls == CALLS_OF_AN_OBJECT) {
            asked = new TransformMonoid(want.n);
            calls = 0;
            for (int generator : want.generators) {
                asked.generate(generator);
                calls++;
            }
        }
        calls++;
        return asked;
    }

    private static void due(Definition want, String call, int got, int answer) {
        if (got != answer) {
            wrong++;
            System.out.println(want.n + " points, generators " + Arrays.toString(want.generators)
                + ": " + call + " answered " + got + ", due is " + answer);
        }
    }

    private void askAboutTheMonoid() {
        due(want, "points()", x().points(), want.n);
        due(want, "size()", x().size(), want.size());
        due(want, "longest()", x().longest(), want.longest());
        due(want, "idempotents()", x().idempotents(), want.idempotents());
        due(want, "units()", x().units(), want.units());
        due(want, "kernel()", x().kernel(), want.kernel());
        due(want, "commutes()", x().commutes(), want.commutes());
        for (int kind = -1; kind <= 3; kind++) {
            due(want, "classes(" + kind + ")", x().classes(kind), want.classes(kind));
        }
    }

    private void askAbout(int code) {
        due(want, "has(" + code + ")", x().has(code), want.has(code));
        due(want, "element(" + code + ")", x().element(code), want.elementAt(code));
        due(want, "length(" + code + ")", x().length(code), want.length(code));
        due(want, "rank(" + code + ")", x().rank(code), want.rank(code));
        due(want, "index(" + code + ")", x().index(code), want.index(code));
        due(want, "period(" + code + ")", x().period(code), want.period(code));
        for (int place = -1; place <= want.length(code); place++) {
            due(want, "letter(" + code + ", " + place + ")", x().letter(code, place), want.letter(code, place));
        }
        for (int kind = -1; kind <= 3; kind++) {
            due(want, "ideal(" + kind + ", " + code + ")", x().ideal(kind, code), want.ideal(kind, code));
        }
    }

    private void askAboutBoth(int f, int g) {
        due(want, "product(" + f + ", " + g + ")", x().product(f, g), want.product(f, g));
        for (int kind = -1; kind <= 3; kind++) {
            due(want, "alike(" + kind + ", " + f + ", " + g + ")", x().alike(kind, f, g), want.alike(kind, f, g));
        }
    }

    private void askEverything(int pairStep) {
        askAboutTheMonoid();
        for (int code = -2; code < want.codes + 2; code++) {
            askAbout(code);
        }
        int span = want.codes + 2;
        for (int pair = 0; pair < span * span; pair += pairStep) {
            askAboutBoth(pair / span - 1, pair % span - 1);
        }
        askAboutTheMonoid();
    }

    private static void askAllLists(int n, int codes, int most) {
        int lists = 1;
        for (int length = 0; length <= most; length++) {
            for (int list = 0; list < lists; list++) {
                int[] generators = new int[length];
                int rest = list;
                for (int i = 0; i < length; i++) {
                    generators[i] = rest % codes;
                    rest /= codes;
                }
                // All pairs for the shorter lists; a step prime to the span mixes the pairs of the longer.
                new DefinitionsTest(new Definition(n, generators)).askEverything(n == 3 && length == 2 ? 13 : 1);
            }
            lists *= codes;
        }
    }

    private static int[] mixedList(Mixed mixed, int length, int codes) {
        int[] generators = new int[length];
        for (int i = 0; i < length; i++) {
            generators[i] = mixed.below(codes);
        }
        return generators;
    }

    private static void askMixedLists() {
        Mixed mixed = new Mixed(4);
        for (int i = 0; i < 30; i++) {
            new DefinitionsTest(new Definition(3, mixedList(mixed, 3 + i % 2, 27))).askEverything(1);
        }
        for (int i = 0; i < 40; i++) {
            new DefinitionsTest(new Definition(4, mixedList(mixed, 1 + i % 4, 256))).askEverything(29);
        }
        int[][] chosen = {{108, 75, 11}, {108, 27, 24, 0}, {11, 108, 75, 75}, {6}, {75, 30, 39}, {228, 57, 0, 255}};
        for (int[] generators : chosen) {
            new DefinitionsTest(new Definition(4, generators)).askEverything(29);
        }
    }

    /** Generators come and go between the questions, to the last call that the document binds. */
    private static void runMixedCalls(int n, long seed) {
        Mixed mixed = new Mixed(seed);
        TransformMonoid x = new TransformMonoid(n);
        Definition want = new Definition(n, new int[0]);
        for (int call = 1; call <= CALLS_OF_AN_OBJECT; call++) {
            int kind = mixed.below(5) - 1;
            int f = mixed.below(want.codes + 4) - 2;
            int g = mixed.below(want.codes + 4) - 2;
            // A member now and then, or the questions of a small monoid would mostly meet none.
            if (mixed.below(2) == 0) {
                f = want.elementAt(mixed.below(want.size()));
                g = want.elementAt(mixed.below(want.size()));
            }
            String what = "call " + call + " of run " + seed + " with " + kind + ", " + f + ", " + g;
            switch (mixed.below(22)) {
                case 0: case 1:
                    due(want, what + ", generate", x.generate(f), want.generate(f));
                    want = want.generate(f) >= 0 ? want.withLast(f) : want;
                    break;
                case 2:
                    due(want, what + ", drop", x.drop(), want.drop());
                    want = want.drop() >= 0 ? want.withoutLast() : want;
                    break;
                case 3: due(want, what + ", points", x.points(), n); break;
                case 4: due(want, what + ", product", x.product(f, g), want.product(f, g)); break;
                case 5: due(want, what + ", size", x.size(), want.size()); break;
                case 6: due(want, what + ", has", x.has(f), want.has(f)); break;
                case 7: due(want, what + ", element", x.element(f), want.elementAt(f)); break;
                case 8: due(want, what + ", length", x.length(f), want.length(f)); break;
                case 9: case 10: due(want, what + ", letter", x.letter(f, kind), want.letter(f, kind)); break;
                case 11: due(want, what + ", longest", x.longest(), want.longest()); break;
                case 12: due(want, what + ", idempotents", x.idempotents(), want.idempotents()); break;
                case 13: due(want, what + ", units", x.units(), want.units()); break;
                case 14: due(want, what + ", rank", x.rank(f), want.rank(f)); break;
                case 15: due(want, what + ", index", x.index(f), want.index(f)); break;
                case 16: due(want, what + ", period", x.period(f), want.period(f)); break;
                case 17: due(want, what + ", classes", x.classes(kind), want.classes(kind)); break;
                case 18: due(want, what + ", alike", x.alike(kind, f, g), want.alike(kind, f, g)); break;
                case 19: due(want, what + ", ideal", x.ideal(kind, f), want.ideal(kind, f)); break;
                case 20: due(want, what + ", kernel", x.kernel(), want.kernel()); break;
                default: due(want, what + ", commutes", x.commutes(), want.commutes()); break;
            }
        }
    }

    public static void main(String[] args) {
        askAllLists(2, 4, 4);
        askAllLists(3, 27, 2);
        askMixedLists();
        for (int seed = 1; seed <= 12; seed++) {
            runMixedCalls(2, seed);
            runMixedCalls(3, seed + 100);
            runMixedCalls(4, seed + 200);
        }
        System.out.println(wrong == 0 ? "all answers are as due" : wrong + " answers are not as due");
        if (wrong != 0) {
            System.exit(1);
        }
    }
}
