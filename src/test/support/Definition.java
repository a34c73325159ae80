import java.util.ArrayList;
import java.util.Arrays;
import java.util.BitSet;
import java.util.HashMap;
import java.util.List;
import java.util.Map;

/** The monoid of a list of generators, by the words of the document and without short cuts. */
final class Definition {
    final int n;
    final int codes;
    final int identity;
    final int[] generators;
    final int[] products;
    final BitSet elements = new BitSet();
    final Map<Integer, List<Integer>> words = new HashMap<>();
    final List<BitSet[]> sets = new ArrayList<>();

    Definition(int n, int[] generators) {
        this.n = n;
        this.generators = generators;
        int count = 1;
        for (int i = 0; i < n; i++) {
            count *= n;
        }
        codes = count;
        products = new int[codes * codes];
        for (int f = 0; f < codes; f++) {
            for (int g = 0; g < codes; g++) {
                int[] images = new int[n];
                for (int p = 0; p < n; p++) {
                    images[p] = image(g, image(f, p));
                }
                products[f * codes + g] = codeOf(images);
            }
        }
        int[] points = new int[n];
        for (int p = 0; p < n; p++) {
            points[p] = p;
        }
        identity = codeOf(points);
        findElements();
        elements.stream().forEach(a -> words.put(a, wordOf(a)));
        for (int kind = 0; kind < 3; kind++) {
            sets.add(new BitSet[codes]);
        }
        elements.stream().forEach(this::findOneSidedSets);
        elements.stream().forEach(this::findTwoSidedSet);
    }

    int codeOf(int[] images) {
        StringBuilder digits = new StringBuilder();
        for (int image : images) {
            digits.append(image);
        }
        return Integer.parseInt(digits.toString(), n);
    }

    int image(int code, int p) {
        int rest = code;
        for (int i = n - 1; i > p; i--) {
            rest /= n;
        }
        return rest % n;
    }

    int times(int f, int g) {
        return products[f * codes + g];
    }

    void findElements() {
        elements.set(identity);
        int before;
        do {
            before = elements.cardinality();
            for (int a = 0; a < codes; a++) {
                for (int g : generators) {
                    if (elements.get(a)) {
                        elements.set(times(a, g));
                    }
                }
            }
        } while (elements.cardinality() > before);
    }

    /** From the target backwards which maps are how far from it; then forwards by the least number each time. */
    List<Integer> wordOf(int target) {
        List<BitSet> layers = new ArrayList<>();
        BitSet layer = new BitSet();
        layer.set(target);
        layers.add(layer);
        while (!layer.get(identity)) {
            BitSet farther = new BitSet();
            for (int a = 0; a < codes; a++) {
                for (int g : generators) {
                    if (layer.get(times(a, g))) {
                        farther.set(a);
                    }
                }
            }
            layers.add(farther);
            layer = farther;
        }
        List<Integer> word = new ArrayList<>();
        int at = identity;
        for (int left = layers.size() - 2; left >= 0; left--) {
            int number = 0;
            while (!layers.get(left).get(times(at, generators[number]))) {
                number++;
            }
            word.add(number);
            at = times(at, generators[number]);
        }
        return word;
    }

    void findOneSidedSets(int a) {
        BitSet right = new BitSet();
        BitSet left = new BitSet();
        elements.stream().forEach(x -> {
            right.set(times(a, x));
            left.set(times(x, a));
        });
        sets.get(0)[a] = right;
        sets.get(1)[a] = left;
    }

    void findTwoSidedSet(int a) {
        BitSet both = new BitSet();
        elements.stream().forEach(x -> both.or(sets.get(0)[times(x, a)]));
        sets.get(2)[a] = both;
    }

    Definition withLast(int code) {
        int[] longer = Arrays.copyOf(generators, generators.length + 1);
        longer[generators.length] = code;
        return new Definition(n, longer);
    }

    Definition withoutLast() {
        return new Definition(n, Arrays.copyOf(generators, generators.length - 1));
    }

    int generate(int code) {
        return !good(code) ? -1 : generators.length == 4 ? -2 : generators.length;
    }

    int drop() {
        return generators.length == 0 ? -1 : generators[generators.length - 1];
    }

    int size() {
        return elements.cardinality();
    }

    boolean good(int code) {
        return 0 <= code && code < codes;
    }

    boolean element(int code) {
        return good(code) && elements.get(code);
    }

    int has(int code) {
        return !good(code) ? -1 : elements.get(code) ? 1 : 0;
    }

    int product(int f, int g) {
        return good(f) && good(g) ? times(f, g) : -1;
    }

    int elementAt(int i) {
        int[] rising = elements.stream().toArray();
        return 0 <= i && i < rising.length ? rising[i] : -1;
    }

    int length(int code) {
        return !good(code) ? -1 : !elements.get(code) ? -2 : words.get(code).size();
    }

    int letter(int code, int place) {
        int length = length(code);
        return length < 0 ? length : place < 0 || place >= length ? -3 : words.get(code).get(place);
    }

    int longest() {
        return elements.stream().map(this::length).max().getAsInt();
    }

    int idempotents() {
        return (int) elements.stream().filter(e -> times(e, e) == e).count();
    }

    int units() {
        return (int) elements.stream().filter(a -> elements.stream()
            .anyMatch(b -> times(a, b) == identity && times(b, a) == identity)).count();
    }

    int rank(int code) {
        if (!good(code)) {
            return -1;
        }
        BitSet images = new BitSet();
        for (int p = 0; p < n; p++) {
            images.set(image(code, p));
        }
        return images.cardinality();
    }

    /** Index and period: the first power that came before, and how long before. */
    int[] repeat(int code) {
        List<Integer> powers = new ArrayList<>();
        int power = code;
        while (!powers.contains(power)) {
            powers.add(power);
            power = times(power, code);
        }
        int first = powers.indexOf(power);
        return new int[] {first + 1, powers.size() - first};
    }

    int index(int code) {
        return good(code) ? repeat(code)[0] : -1;
    }

    int period(int code) {
        return good(code) ? repeat(code)[1] : -1;
    }

    int classes(int kind) {
        if (kind < 0 || kind > 2) {
            return -1;
        }
        return (int) elements.stream().mapToObj(a -> sets.get(kind)[a]).distinct().count();
    }

    int alike(int kind, int f, int g) {
        if (kind < 0 || kind > 2) {
            return -1;
        }
        if (!element(f) || !element(g)) {
            return -2;
        }
        return sets.get(kind)[f].equals(sets.get(kind)[g]) ? 1 : 0;
    }

    int ideal(int kind, int code) {
        return kind < 0 || kind > 2 ? -1 : !element(code) ? -2 : sets.get(kind)[code].cardinality();
    }

    int kernel() {
        BitSet inAll = (BitSet) elements.clone();
        elements.stream().forEach(a -> inAll.and(sets.get(2)[a]));
        return inAll.cardinality();
    }

    int commutes() {
        return elements.stream().allMatch(a -> elements.stream()
            .allMatch(b -> times(a, b) == times(b, a))) ? 1 : 0;
    }
}
