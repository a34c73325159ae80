/** For each promise: ordinary inputs, the edges that the document names, and wrong inputs, worked out by hand. */
public final class PromisesTest extends MonoidTest {
    private static void promise1NewObject() {
        int[] asked = {MIN, -1, 0, 1, 2, 3, 4, 5, 100, MAX};
        int[] want = {2, 2, 2, 2, 2, 3, 4, 4, 4, 4};
        int[] identity = {0, 0, map(0, 1), map(0, 1, 2), map(0, 1, 2, 3)};
        for (int i = 0; i < asked.length; i++) {
            TransformMonoid x = new TransformMonoid(asked[i]);
            String made = "TransformMonoid(" + asked[i] + ").";
            due(made + "points()", x.points(), want[i]);
            due(made + "size()", x.size(), 1);
            due(made + "element(0)", x.element(0), identity[want[i]]);
            due(made + "drop()", x.drop(), -1);
        }
    }

    private static void promise2Points() {
        for (int n = 2; n <= 4; n++) {
            TransformMonoid x = new TransformMonoid(n);
            due("points() of a new object", x.points(), n);
            x.generate(0);
            due("points() with a generator", x.points(), n);
            x.drop();
            due("points() after drop()", x.points(), n);
        }
    }

    private static void promise3Generate() {
        int[] goodCodes = {0, 0, 4, 27, 256};
        for (int n = 2; n <= 4; n++) {
            TransformMonoid x = new TransformMonoid(n);
            for (int bad : new int[] {MIN, -1, goodCodes[n], goodCodes[n] + 1, MAX}) {
                due("generate(" + bad + ")", x.generate(bad), -1);
            }
            due("size() after refused calls", x.size(), 1);
            due("drop() after refused calls", x.drop(), -1);
            due("generate of the greatest code", x.generate(goodCodes[n] - 1), 0);
            due("generate of the least code", x.generate(0), 1);
            due("generate of the same map again", x.generate(0), 2);
            due("generate of a fourth", x.generate(1), 3);
            int size = x.size();
            due("generate of a fifth", x.generate(2), -2);
            due("generate of a fifth that is not good", x.generate(goodCodes[n]), -1);
            due("generate of a negative fifth", x.generate(-1), -1);
            due("size() after a refused fifth", x.size(), size);
            due("drop() after a refused fifth", x.drop(), 1);
        }
    }

    private static void promise4Drop() {
        TransformMonoid x = full(3);
        due("drop()", x.drop(), map(0, 1, 1));
        due("size() of the group", x.size(), 6);
        due("has() of what went", x.has(map(0, 1, 1)), 0);
        due("generate after drop()", x.generate(map(0, 0, 0)), 2);
        due("size() of the group and the constants", x.size(), 9);
        due("drop()", x.drop(), map(0, 0, 0));
        due("drop()", x.drop(), map(0, 2, 1));
        due("size() of the cycle", x.size(), 3);
        due("drop()", x.drop(), map(1, 2, 0));
        due("size() without generators", x.size(), 1);
        due("drop() of none", x.drop(), -1);
        due("drop() of none again", x.drop(), -1);
        due("generate after a refused drop()", x.generate(map(1, 2, 0)), 0);
        TransformMonoid twice = made(2, map(1, 0), map(1, 0));
        due("drop() of the second of two the same", twice.drop(), map(1, 0));
        due("size() with the first left", twice.size(), 2);
    }

    private static void promise5Product() {
        TransformMonoid x = new TransformMonoid(2);
        int[] table = {0, 0, 3, 3, 0, 1, 2, 3, 0, 2, 1, 3, 0, 3, 0, 3};
        for (int f = 0; f < 4; f++) {
            for (int g = 0; g < 4; g++) {
                due("product(" + f + ", " + g + ")", x.product(f, g), table[f * 4 + g]);
            }
        }
        TransformMonoid y = new TransformMonoid(4);
        due("first the cycle", y.product(map(1, 2, 3, 0), map(0, 0, 1, 3)), map(0, 1, 3, 0));
        due("then the cycle", y.product(map(0, 0, 1, 3), map(1, 2, 3, 0)), map(1, 1, 2, 0));
        due("product(255, 255)", y.product(255, 255), 255);
        for (int bad : new int[] {MIN, -1, 4, MAX}) {
            due("product(" + bad + ", 0)", x.product(bad, 0), -1);
            due("product(0, " + bad + ")", x.product(0, bad), -1);
            due("product(" + bad + ", " + bad + ")", x.product(bad, bad), -1);
        }
        due("product(256, 0)", y.product(256, 0), -1);
        due("product(0, 256)", y.product(0, 256), -1);
    }

    private static void promise6Size() {
        due("size() of all maps of 2 points", full(2).size(), 4);
        due("size() of all maps of 3 points", full(3).size(), 27);
        due("size() of all maps of 4 points", full(4).size(), 256);
        due("size() of no generators", made(4).size(), 1);
        due("size() of the identity alone", made(4, map(0, 1, 2, 3)).size(), 1);
        due("size() of a cycle", made(4, map(1, 2, 3, 0)).size(), 4);
        due("size() of two constants", constants().size(), 3);
        due("size() of a descent", descent().size(), 4);
    }

    private static void promise7Has() {
        TransformMonoid x = made(3, map(1, 2, 0));
        for (int code = 0; code < 27; code++) {
            boolean turn = code == map(0, 1, 2) || code == map(1, 2, 0) || code == map(2, 0, 1);
            due("has(" + code + ")", x.has(code), turn ? 1 : 0);
        }
        for (int bad : new int[] {MIN, -1, 27, 255, MAX}) {
            due("has(" + bad + ")", x.has(bad), -1);
        }
        due("has(255) of 4 points", full(4).has(255), 1);
        due("has(256) of 4 points", full(4).has(256), -1);
    }

    private static void promise8Element() {
        TransformMonoid x = made(3, map(2, 0, 1));
        due("element(0)", x.element(0), map(0, 1, 2));
        due("element(1)", x.element(1), map(1, 2, 0));
        due("element(2)", x.element(2), map(2, 0, 1));
        for (int none : new int[] {MIN, -1, 3, 26, MAX}) {
            due("element(" + none + ")", x.element(none), -1);
        }
        TransformMonoid all = full(4);
        for (int i = 0; i < 256; i++) {
            due("element(" + i + ") of all maps", all.element(i), i);
        }
        due("element(256) of all maps", all.element(256), -1);
    }

    private static void promise9Length() {
        TransformMonoid x = descent();
        due("length of the identity", x.length(map(0, 1, 2, 3)), 0);
        due("length of the generator", x.length(map(0, 0, 1, 2)), 1);
        due("length of its square", x.length(map(0, 0, 0, 1)), 2);
        due("length of its cube", x.length(map(0, 0, 0, 0)), 3);
        due("length of no element", x.length(map(1, 1, 1, 1)), -2);
        for (int bad : new int[] {MIN, -1, 256, MAX}) {
            due("length(" + bad + ")", x.length(bad), -1);
        }
        due("length of the identity as a generator", made(3, map(0, 1, 2)).length(map(0, 1, 2)), 0);
        TransformMonoid shortcut = made(4, map(1, 2, 3, 0), map(3, 0, 1, 2));
        due("length by the second generator", shortcut.length(map(3, 0, 1, 2)), 1);
        shortcut.drop();
        due("length without it", shortcut.length(map(3, 0, 1, 2)), 3);
    }

    private static void promise10Letter() {
        TransformMonoid x = made(4, map(1, 0, 2, 3), map(0, 1, 3, 2));
        int both = map(1, 0, 3, 2);
        due("first letter, the lesser number", x.letter(both, 0), 0);
        due("second letter", x.letter(both, 1), 1);
        for (int none : new int[] {MIN, -1, 2, MAX}) {
            due("letter(both, " + none + ")", x.letter(both, none), -3);
        }
        due("letter of the empty word", x.letter(map(0, 1, 2, 3), 0), -3);
        due("letter of no element", x.letter(map(0, 0, 0, 0), 0), -2);
        due("letter of no element, no place", x.letter(map(0, 0, 0, 0), -1), -2);
        for (int bad : new int[] {MIN, -1, 256, MAX}) {
            due("letter(" + bad + ", 0)", x.letter(bad, 0), -1);
            due("letter(" + bad + ", -1)", x.letter(bad, -1), -1);
        }
        TransformMonoid order = made(3, map(1, 2, 0), map(0, 1, 1));
        due("cycle first, letter 0", order.letter(map(1, 1, 0), 0), 0);
        due("cycle first, letter 1", order.letter(map(1, 1, 0), 1), 1);
        due("cycle last, letter 0", order.letter(map(1, 2, 2), 0), 1);
        due("cycle last, letter 1", order.letter(map(1, 2, 2), 1), 0);
        TransformMonoid twice = made(2, map(1, 0), map(1, 0));
        due("letter of a map that is there twice", twice.letter(map(1, 0), 0), 0);
        TransformMonoid turns = made(4, map(3, 0, 1, 2), map(1, 2, 3, 0));
        due("half a turn, letter 0", turns.letter(map(2, 3, 0, 1), 0), 0);
        due("half a turn, letter 1", turns.letter(map(2, 3, 0, 1), 1), 0);
    }

    private static void promise11Longest() {
        due("longest() of no generators", made(3).longest(), 0);
        due("longest() of the identity", made(3, map(0, 1, 2)).longest(), 0);
        due("longest() of a cycle", made(4, map(1, 2, 3, 0)).longest(), 3);
        due("longest() of both turns", made(4, map(1, 2, 3, 0), map(3, 0, 1, 2)).longest(), 2);
        due("longest() of two constants", constants().longest(), 1);
        due("longest() of a descent", descent().longest(), 3);
        due("longest() of all maps of 2 points", full(2).longest(), 2);
        due("longest() of all maps of 3 points", full(3).longest(), 5);
    }

    private static void promise12Idempotents() {
        due("idempotents() of no generators", made(3).idempotents(), 1);
        due("idempotents() of all maps of 2 points", full(2).idempotents(), 3);
        due("idempotents() of all maps of 3 points", full(3).idempotents(), 10);
        due("idempotents() of all maps of 4 points", full(4).idempotents(), 41);
        due("idempotents() of a cycle", made(4, map(1, 2, 3, 0)).idempotents(), 1);
        due("idempotents() of a descent", descent().idempotents(), 2);
    }

    private static void promise13Units() {
        due("units() of no generators", made(3).units(), 1);
        due("units() of all maps of 2 points", full(2).units(), 2);
        due("units() of all maps of 3 points", full(3).units(), 6);
        due("units() of all maps of 4 points", full(4).units(), 24);
        due("units() of a cycle", made(4, map(1, 2, 3, 0)).units(), 4);
        due("units() of a descent", descent().units(), 1);
        // The inverse on its three images is there, but it is none: a product with it is never the identity.
        due("units() of a turn that is no permutation", made(4, map(1, 2, 0, 0)).units(), 1);
    }

    private static void promise14Rank() {
        TransformMonoid x = new TransformMonoid(4);
        due("rank of a constant", x.rank(map(3, 3, 3, 3)), 1);
        due("rank of two images", x.rank(map(3, 0, 3, 0)), 2);
        due("rank of three images", x.rank(map(3, 0, 1, 0)), 3);
        due("rank of a permutation", x.rank(map(3, 0, 1, 2)), 4);
        for (int bad : new int[] {MIN, -1, 256, MAX}) {
            due("rank(" + bad + ")", x.rank(bad), -1);
        }
        due("rank(26) of 3 points", new TransformMonoid(3).rank(26), 1);
        due("rank(27) of 3 points", new TransformMonoid(3).rank(27), -1);
    }

    private static void indexAndPeriod(int index, int period, int... images) {
        TransformMonoid x = new TransformMonoid(images.length);
        int code = map(images);
        due("index(" + code + ") of " + images.length + " points", x.index(code), index);
        due("period(" + code + ") of " + images.length + " points", x.period(code), period);
    }

    private static void promises15And16IndexAndPeriod() {
        indexAndPeriod(1, 1, 0, 1);
        indexAndPeriod(1, 2, 1, 0);
        indexAndPeriod(1, 1, 1, 1);
        indexAndPeriod(1, 1, 0, 1, 2);
        indexAndPeriod(2, 1, 1, 1, 0);
        indexAndPeriod(1, 3, 1, 2, 0);
        indexAndPeriod(1, 2, 1, 0, 1);
        indexAndPeriod(3, 1, 0, 0, 1, 2);
        indexAndPeriod(2, 2, 1, 0, 0, 2);
        indexAndPeriod(1, 3, 1, 2, 0, 0);
        indexAndPeriod(1, 4, 1, 2, 3, 0);
        indexAndPeriod(1, 2, 1, 0, 3, 2);
        indexAndPeriod(1, 3, 1, 2, 0, 3);
        TransformMonoid x = new TransformMonoid(3);
        for (int bad : new int[] {MIN, -1, 27, MAX}) {
            due("index(" + bad + ")", x.index(bad), -1);
            due("period(" + bad + ")", x.period(bad), -1);
        }
    }

    private static void classCounts(String of, TransformMonoid x, int right, int left, int twoSided) {
        due("classes(0) of " + of, x.classes(0), right);
        due("classes(1) of " + of, x.classes(1), left);
        due("classes(2) of " + of, x.classes(2), twoSided);
    }

    private static void promise17Classes() {
        classCounts("no generators", made(3), 1, 1, 1);
        classCounts("all maps of 2 points", full(2), 2, 3, 2);
        classCounts("all maps of 3 points", full(3), 5, 7, 3);
        classCounts("all maps of 4 points", full(4), 15, 15, 4);
        classCounts("a cycle", made(4, map(1, 2, 3, 0)), 1, 1, 1);
        classCounts("two constants", constants(), 2, 3, 2);
        classCounts("a descent", descent(), 4, 4, 4);
        for (int bad : new int[] {MIN, -1, 3, MAX}) {
            due("classes(" + bad + ")", full(2).classes(bad), -1);
        }
    }

    private static void alikeInAll(String what, TransformMonoid x, int f, int g, int[] want) {
        for (int kind = 0; kind < 3; kind++) {
            due("alike(" + kind + ", ..) of " + what, x.alike(kind, f, g), want[kind]);
            due("alike(" + kind + ", ..) of " + what + ", turned round", x.alike(kind, g, f), want[kind]);
        }
    }

    private static void promise18Alike() {
        TransformMonoid all = full(3);
        alikeInAll("an element and itself", all, map(0, 1, 1), map(0, 1, 1), new int[] {1, 1, 1});
        alikeInAll("the same images", all, map(0, 1, 1), map(1, 0, 0), new int[] {1, 1, 1});
        alikeInAll("the same images otherwise spread", all, map(0, 1, 1), map(0, 0, 1), new int[] {0, 1, 1});
        alikeInAll("other images likewise spread", all, map(0, 1, 1), map(0, 2, 2), new int[] {1, 0, 1});
        alikeInAll("other images otherwise spread", all, map(0, 1, 1), map(0, 0, 2), new int[] {0, 0, 1});
        alikeInAll("other ranks", all, map(0, 1, 1), map(0, 0, 0), new int[] {0, 0, 0});
        alikeInAll("two constants", constants(), map(0, 0), map(1, 1), new int[] {1, 0, 1});
        alikeInAll("powers of a descent", descent(), map(0, 0, 1, 2), map(0, 0, 0, 1), new int[] {0, 0, 0});
        TransformMonoid x = constants();
        for (int bad : new int[] {MIN, -1, 3, MAX}) {
            due("alike(" + bad + ", 0, 3)", x.alike(bad, 0, 3), -1);
            due("alike(" + bad + ", 2, 9)", x.alike(bad, 2, 9), -1);
        }
        for (int kind = 0; kind < 3; kind++) {
            for (int no : new int[] {MIN, -1, 2, 4, MAX}) {
                due("alike(" + kind + ", " + no + ", 0)", x.alike(kind, no, 0), -2);
                due("alike(" + kind + ", 0, " + no + ")", x.alike(kind, 0, no), -2);
                due("alike(" + kind + ", " + no + ", " + no + ")", x.alike(kind, no, no), -2);
            }
        }
    }

    private static void setSizes(String of, TransformMonoid x, int code, int... want) {
        for (int kind = 0; kind < 3; kind++) {
            due("ideal(" + kind + ", " + code + ") of " + of, x.ideal(kind, code), want[kind]);
        }
    }

    private static void promise19Ideal() {
        setSizes("all maps of 3 points", full(3), map(0, 1, 2), 27, 27, 27);
        setSizes("all maps of 3 points", full(3), map(0, 1, 1), 9, 8, 21);
        setSizes("all maps of 3 points", full(3), map(2, 2, 2), 3, 1, 3);
        setSizes("all maps of 4 points", full(4), map(0, 1, 2, 2), 64, 81, 232);
        setSizes("two constants", constants(), map(0, 0), 2, 1, 2);
        setSizes("a descent", descent(), map(0, 0, 0, 1), 2, 2, 2);
        setSizes("no generators", made(2), map(0, 1), 1, 1, 1);
        TransformMonoid x = constants();
        for (int bad : new int[] {MIN, -1, 3, MAX}) {
            due("ideal(" + bad + ", 0)", x.ideal(bad, 0), -1);
            due("ideal(" + bad + ", 2)", x.ideal(bad, 2), -1);
        }
        for (int kind = 0; kind < 3; kind++) {
            for (int no : new int[] {MIN, -1, 2, 4, MAX}) {
                due("ideal(" + kind + ", " + no + ")", x.ideal(kind, no), -2);
            }
        }
    }

    private static void promise20Kernel() {
        due("kernel() of no generators", made(4).kernel(), 1);
        due("kernel() of all maps of 2 points", full(2).kernel(), 2);
        due("kernel() of all maps of 3 points", full(3).kernel(), 3);
        due("kernel() of all maps of 4 points", full(4).kernel(), 4);
        due("kernel() of a cycle", made(4, map(1, 2, 3, 0)).kernel(), 4);
        due("kernel() of two constants", constants().kernel(), 2);
        due("kernel() of a descent", descent().kernel(), 1);
        due("kernel() of a turn of two images", made(4, map(1, 0, 0, 0)).kernel(), 2);
    }

    private static void promise21Commutes() {
        due("commutes() of no generators", made(4).commutes(), 1);
        due("commutes() of one", made(4, map(1, 2, 3, 0)).commutes(), 1);
        due("commutes() of swaps apart", made(4, map(1, 0, 2, 3), map(0, 1, 3, 2)).commutes(), 1);
        due("commutes() of swaps that touch", made(3, map(1, 0, 2), map(0, 2, 1)).commutes(), 0);
        due("commutes() with the identity between", made(3, map(1, 0, 2), map(0, 1, 2), map(0, 2, 1)).commutes(), 0);
        int one = map(0, 1, 2);
        due("commutes() of the first and the fourth", made(3, map(1, 0, 2), one, one, map(0, 2, 1)).commutes(), 0);
        due("commutes() of two constants", constants().commutes(), 0);
        TransformMonoid x = full(2);
        due("commutes() of all maps", x.commutes(), 0);
        x.drop();
        due("commutes() after drop()", x.commutes(), 1);
    }

    public static void main(String[] args) {
        promise1NewObject();
        promise2Points();
        promise3Generate();
        promise4Drop();
        promise5Product();
        promise6Size();
        promise7Has();
        promise8Element();
        promise9Length();
        promise10Letter();
        promise11Longest();
        promise12Idempotents();
        promise13Units();
        promise14Rank();
        promises15And16IndexAndPeriod();
        promise17Classes();
        promise18Alike();
        promise19Ideal();
        promise20Kernel();
        promise21Commutes();
        end();
    }
}
