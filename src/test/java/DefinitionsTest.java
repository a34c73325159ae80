import java.util.ArrayList;
import java.util.BitSet;
import java.util.HashMap;
import java.util.List;
import java.util.Map;

/** Holds every answer against the document's definitions, spelt out by brute force. */
public final class DefinitionsTest {
    private static final int CALLS_OF_AN_OBJECT = 512;
    private static int wrong = 0;

    /** The monoid of a list of generators, by the words of the document and without short cuts. */
    private static final class Definition {
        final int n;
        final int codes;
        final int identity;
        final int[] generators;
        final int[] products;
        final BitSet elements = new BitSet();
        final Map<Integer, List<Integer>> words = new HashMap<>();
        final List<BitSet[]> sets = new ArrayList<>();

        Definition(int n, int[] generators) {
            this.n = n;
            this.generators = generators;
            int count = 1;
            for (int i = 0; i < n; i++) {
                count *= n;
            }
            codes = count;
            products = new int[codes * codes];
            for (int f = 0; f < codes; f++) {
                for (int g = 0; g < codes; g++) {
                    int[] images = new int[n];
                    for (int p = 0; p < n; p++) {
                        images[p] = image(g, image(f, p));
                    }
                    products[f * codes + g] = codeOf(images);
                }
            }
            int[] points = new int[n];
            for (int p = 0; p < n; p++) {
                points[p] = p;
            }
            identity = codeOf(points);
            findElements();
            elements.stream().forEach(a -> words.put(a, wordOf(a)));
            for (int kind = 0; kind < 3; kind++) {
                sets.add(new BitSet[codes]);
            }
            elements.stream().forEach(this::findOneSidedSets);
            elements.stream().forEach(this::findTwoSidedSet);
        }

        int codeOf(int[] images) {
            StringBuilder digits = new StringBuilder();
            for (int image : images) {
                digits.append(image);
            }
            return Integer.parseInt(digits.toString(), n);
        }

        int image(int code, int p) {
            int rest = code;
            for (int i = n - 1; i > p; i--) {
                rest /= n;
            }
            return rest % n;
        }

        int times(int f, int g) {
            return products[f * codes + g];
        }

        void findElements() {
            elements.set(identity);
            int before;
            do {
                before = elements.cardinality();
                for (int a = 0; a < codes; a++) {
                    for (int g : generators) {
                        if (elements.get(a)) {
                            elements.set(times(a, g));
                        }
                    }
                }
            } while (elements.cardinality() > before);
        }

        /** From the target backwards which maps are how far from it; then forwards by the least number each time. */
        List<Integer> wordOf(int target) {
            List<BitSet> layers = new ArrayList<>();
            BitSet layer = new BitSet();
            layer.set(target);
            layers.add(layer);
            while (!layer.get(identity)) {
                BitSet farther = new BitSet();
                for (int a = 0; a < codes; a++) {
                    for (int g : generators) {
                        if (layer.get(times(a, g))) {
                            farther.set(a);
                        }
                    }
                }
                layers.add(farther);
                layer = farther;
            }
            List<Integer> word = new ArrayList<>();
            int at = identity;
            for (int left = layers.size() - 2; left >= 0; left--) {
                int number = 0;
                while (!layers.get(left).get(times(at, generators[number]))) {
                    number++;
                }
                word.add(number);
                at = times(at, generators[number]);
            }
            return word;
        }

        void findOneSidedSets(int a) {
            BitSet right = new BitSet();
            BitSet left = new BitSet();
            elements.stream().forEach(x -> {
                right.set(times(a, x));
                left.set(times(x, a));
            });
            sets.get(0)[a] = right;
            sets.get(1)[a] = left;
        }

        void findTwoSidedSet(int a) {
            BitSet both = new BitSet();
            elements.stream().forEach(x -> both.or(sets.get(0)[times(x, a)]));
            sets.get(2)[a] = both;
        }

        boolean good(int code) {
            return 0 <= code && code < codes;
        }

        boolean element(int code) {
            return good(code) && elements.get(code);
        }

        int has(int code) {
            return !good(code) ? -1 : elements.get(code) ? 1 : 0;
        }

        int product(int f, int g) {
            return good(f) && good(g) ? times(f, g) : -1;
        }

        int elementAt(int i) {
            int[] rising = elements.stream().toArray();
            return 0 <= i && i < rising.length ? rising[i] : -1;
        }

        int length(int code) {
            return !good(code) ? -1 : !elements.get(code) ? -2 : words.get(code).size();
        }

        int letter(int code, int place) {
            int length = length(code);
            return length < 0 ? length : place < 0 || place >= length ? -3 : words.get(code).get(place);
        }

        int longest() {
            return elements.stream().map(this::length).max().getAsInt();
        }

        int idempotents() {
            return (int) elements.stream().filter(e -> times(e, e) == e).count();
        }

        int units() {
            return (int) elements.stream().filter(a -> elements.stream()
                .anyMatch(b -> times(a, b) == identity && times(b, a) == identity)).count();
        }

        int rank(int code) {
            if (!good(code)) {
                return -1;
            }
            BitSet images = new BitSet();
            for (int p = 0; p < n; p++) {
                images.set(image(code, p));
            }
            return images.cardinality();
        }

        /** Index and period: the first power that came before, and how long before. */
        int[] repeat(int code) {
            List<Integer> powers = new ArrayList<>();
            int power = code;
            while (!powers.contains(power)) {
                powers.add(power);
                power = times(power, code);
            }
            int first = powers.indexOf(power);
            return new int[] {first + 1, powers.size() - first};
        }

        int index(int code) {
            return good(code) ? repeat(code)[0] : -1;
        }

        int period(int code) {
            return good(code) ? repeat(code)[1] : -1;
        }

        int classes(int kind) {
            if (kind < 0 || kind > 2) {
                return -1;
            }
            return (int) elements.stream().mapToObj(a -> sets.get(kind)[a]).distinct().count();
        }

        int alike(int kind, int f, int g) {
            if (kind < 0 || kind > 2) {
                return -1;
            }
            if (!element(f) || !element(g)) {
                return -2;
            }
            return sets.get(kind)[f].equals(sets.get(kind)[g]) ? 1 : 0;
        }

        int ideal(int kind, int code) {
            return kind < 0 || kind > 2 ? -1 : !element(code) ? -2 : sets.get(kind)[code].cardinality();
        }

        int kernel() {
            BitSet inAll = (BitSet) elements.clone();
            elements.stream().forEach(a -> inAll.and(sets.get(2)[a]));
            return inAll.cardinality();
        }

        int commutes() {
            return elements.stream().allMatch(a -> elements.stream()
                .allMatch(b -> times(a, b) == times(b, a))) ? 1 : 0;
        }
    }

    /** Numbers that look mixed and are the same every time. */
    private static final class Mixed {
        private long state;

        Mixed(long seed) {
            state = seed;
        }

        int below(int bound) {
            state = state * 6364136223846793005L + 1442695040888963407L;
            return (int) ((state >>> 33) % bound);
        }
    }

    private final Definition want;
    private TransformMonoid asked;
    private int calls = CALLS_OF_AN_OBJECT;

    private DefinitionsTest(Definition want) {
        this.want = want;
    }

    /** The object for one more call: a new one when the document no longer binds the old. */
    private TransformMonoid x() {
        if (calls == CALLS_OF_AN_OBJECT) {
            asked = new TransformMonoid(want.n);
            calls = 0;
            for (int generator : want.generators) {
                asked.generate(generator);
                calls++;
            }
        }
        calls++;
        return asked;
    }

    private static void due(Definition want, String call, int got, int answer) {
        if (got != answer) {
            wrong++;
            System.out.println(want.n + " points, generators " + java.util.Arrays.toString(want.generators)
                + ": " + call + " answered " + got + ", due is " + answer);
        }
    }

    private void askAboutTheMonoid() {
        due(want, "points()", x().points(), want.n);
        due(want, "size()", x().size(), want.elements.cardinality());
        due(want, "longest()", x().longest(), want.longest());
        due(want, "idempotents()", x().idempotents(), want.idempotents());
        due(want, "units()", x().units(), want.units());
        due(want, "kernel()", x().kernel(), want.kernel());
        due(want, "commutes()", x().commutes(), want.commutes());
        for (int kind = -1; kind <= 3; kind++) {
            due(want, "classes(" + kind + ")", x().classes(kind), want.classes(kind));
        }
    }

    private void askAbout(int code) {
        due(want, "has(" + code + ")", x().has(code), want.has(code));
        due(want, "element(" + code + ")", x().element(code), want.elementAt(code));
        due(want, "length(" + code + ")", x().length(code), want.length(code));
        due(want, "rank(" + code + ")", x().rank(code), want.rank(code));
        due(want, "index(" + code + ")", x().index(code), want.index(code));
        due(want, "period(" + code + ")", x().period(code), want.period(code));
        for (int place = -1; place <= want.length(code); place++) {
            due(want, "letter(" + code + ", " + place + ")", x().letter(code, place), want.letter(code, place));
        }
        for (int kind = -1; kind <= 3; kind++) {
            due(want, "ideal(" + kind + ", " + code + ")", x().ideal(kind, code), want.ideal(kind, code));
        }
    }

    private void askAboutBoth(int f, int g) {
        due(want, "product(" + f + ", " + g + ")", x().product(f, g), want.product(f, g));
        for (int kind = -1; kind <= 3; kind++) {
            due(want, "alike(" + kind + ", " + f + ", " + g + ")", x().alike(kind, f, g), want.alike(kind, f, g));
        }
    }

    private void askEverything(int pairStep) {
        askAboutTheMonoid();
        for (int code = -2; code < want.codes + 2; code++) {
            askAbout(code);
        }
        int span = want.codes + 2;
        for (int pair = 0; pair < span * span; pair += pairStep) {
            askAboutBoth(pair / span - 1, pair % span - 1);
        }
        askAboutTheMonoid();
    }

    private static void askAllLists(int n, int codes, int most) {
        int lists = 1;
        for (int length = 0; length <= most; length++) {
            for (int list = 0; list < lists; list++) {
                int[] generators = new int[length];
                int rest = list;
                for (int i = 0; i < length; i++) {
                    generators[i] = rest % codes;
                    rest /= codes;
                }
                // All pairs for the shorter lists; a step prime to the span mixes the pairs of the longer.
                new DefinitionsTest(new Definition(n, generators)).askEverything(n == 3 && length == 2 ? 13 : 1);
            }
            lists *= codes;
        }
    }

    private static int[] mixedList(Mixed mixed, int length, int codes) {
        int[] generators = new int[length];
        for (int i = 0; i < length; i++) {
            generators[i] = mixed.below(codes);
        }
        return generators;
    }

    private static void askMixedLists() {
        Mixed mixed = new Mixed(4);
        for (int i = 0; i < 30; i++) {
            new DefinitionsTest(new Definition(3, mixedList(mixed, 3 + i % 2, 27))).askEverything(1);
        }
        for (int i = 0; i < 40; i++) {
            new DefinitionsTest(new Definition(4, mixedList(mixed, 1 + i % 4, 256))).askEverything(29);
        }
        int[][] chosen = {{108, 75, 11}, {108, 27, 24, 0}, {11, 108, 75, 75}, {6}, {75, 30, 39}, {228, 57, 0, 255}};
        for (int[] generators : chosen) {
            new DefinitionsTest(new Definition(4, generators)).askEverything(29);
        }
    }

    /** Generators come and go between the questions, to the last call that the document binds. */
    private static void runMixedCalls(int n, long seed) {
        Mixed mixed = new Mixed(seed);
        TransformMonoid x = new TransformMonoid(n);
        Definition want = new Definition(n, new int[0]);
        for (int call = 1; call <= CALLS_OF_AN_OBJECT; call++) {
            int kind = mixed.below(5) - 1;
            int f = mixed.below(want.codes + 4) - 2;
            int g = mixed.below(want.codes + 4) - 2;
            int count = want.generators.length;
            // A member now and then, or the questions of a small monoid would mostly meet none.
            if (mixed.below(2) == 0) {
                f = want.elementAt(mixed.below(want.elements.cardinality()));
                g = want.elementAt(mixed.below(want.elements.cardinality()));
            }
            String what = "call " + call + " of run " + seed + " with " + kind + ", " + f + ", " + g;
            switch (mixed.below(22)) {
                case 0: case 1:
                    int number = !want.good(f) ? -1 : count == 4 ? -2 : count;
                    due(want, what + ", generate", x.generate(f), number);
                    if (number >= 0) {
                        int[] longer = java.util.Arrays.copyOf(want.generators, count + 1);
                        longer[count] = f;
                        want = new Definition(n, longer);
                    }
                    break;
                case 2:
                    due(want, what + ", drop", x.drop(), count == 0 ? -1 : want.generators[count - 1]);
                    if (count > 0) {
                        want = new Definition(n, java.util.Arrays.copyOf(want.generators, count - 1));
                    }
                    break;
                case 3: due(want, what + ", points", x.points(), n); break;
                case 4: due(want, what + ", product", x.product(f, g), want.product(f, g)); break;
                case 5: due(want, what + ", size", x.size(), want.elements.cardinality()); break;
                case 6: due(want, what + ", has", x.has(f), want.has(f)); break;
                case 7: due(want, what + ", element", x.element(f), want.elementAt(f)); break;
                case 8: due(want, what + ", length", x.length(f), want.length(f)); break;
                case 9: case 10: due(want, what + ", letter", x.letter(f, kind), want.letter(f, kind)); break;
                case 11: due(want, what + ", longest", x.longest(), want.longest()); break;
                case 12: due(want, what + ", idempotents", x.idempotents(), want.idempotents()); break;
                case 13: due(want, what + ", units", x.units(), want.units()); break;
                case 14: due(want, what + ", rank", x.rank(f), want.rank(f)); break;
                case 15: due(want, what + ", index", x.index(f), want.index(f)); break;
                case 16: due(want, what + ", period", x.period(f), want.period(f)); break;
                case 17: due(want, what + ", classes", x.classes(kind), want.classes(kind)); break;
                case 18: due(want, what + ", alike", x.alike(kind, f, g), want.alike(kind, f, g)); break;
                case 19: due(want, what + ", ideal", x.ideal(kind, f), want.ideal(kind, f)); break;
                case 20: due(want, what + ", kernel", x.kernel(), want.kernel()); break;
                default: due(want, what + ", commutes", x.commutes(), want.commutes()); break;
            }
        }
    }

    public static void main(String[] args) {
        askAllLists(2, 4, 4);
        askAllLists(3, 27, 2);
        askMixedLists();
        for (int seed = 1; seed <= 12; seed++) {
            runMixedCalls(2, seed);
            runMixedCalls(3, seed + 100);
            runMixedCalls(4, seed + 200);
        }
        System.out.println(wrong == 0 ? "all answers are as due" : wrong + " answers are not as due");
        if (wrong != 0) {
            System.exit(1);
        }
    }
}
