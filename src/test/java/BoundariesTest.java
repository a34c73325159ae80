import java.util.ArrayList;
import java.util.HashMap;
import java.util.List;
import java.util.Map;
import java.util.function.IntConsumer;
import java.util.function.ToIntFunction;

/** A test of its own for each boundary case that a sentence of the document names; a failure tells the sentence. */
public final class BoundariesTest extends MonoidTest {
    private static final Map<Definition, List<Asked>> EVERY_CALL = new HashMap<>();
    private static int held = 0;
    private static int broken = 0;

    private static void boundary(String sentence, Runnable test) {
        int before = wrongSoFar();
        try {
            test.run();
        } catch (RuntimeException thrown) {
            // No call may throw; the other cases are to be heard all the same.
            wrong("a call threw " + thrown);
        }
        if (wrongSoFar() == before) {
            held++;
        } else {
            broken++;
            System.out.println("BROKEN: " + sentence);
        }
    }

    /** A boundary that lies elsewhere for each number of points. */
    private static void boundaryForEachN(String sentence, IntConsumer test) {
        for (int n = 2; n <= 4; n++) {
            int points = n;
            boundary(sentence + " (" + n + " points)", () -> test.accept(points));
        }
    }

    private static int codes(int n) {
        return n == 2 ? 4 : n == 3 ? 27 : 256;
    }

    private static int lastCode(int n) {
        return codes(n) - 1;
    }

    private static int identity(int n) {
        return n == 2 ? map(0, 1) : n == 3 ? map(0, 1, 2) : map(0, 1, 2, 3);
    }

    private static int cycle(int n) {
        return n == 2 ? map(1, 0) : n == 3 ? map(1, 2, 0) : map(1, 2, 3, 0);
    }

    /** Sends the last point to the one before it and leaves the others. */
    private static int fold(int n) {
        return n == 2 ? map(0, 0) : n == 3 ? map(0, 1, 1) : map(0, 1, 2, 2);
    }

    /** Sends every point but 0 to the one before it. */
    private static int lower(int n) {
        return n == 2 ? map(0, 0) : n == 3 ? map(0, 0, 1) : map(0, 0, 1, 2);
    }

    private static int othersToOne(int n) {
        return n == 2 ? map(0, 1) : n == 3 ? map(0, 1, 1) : map(0, 1, 1, 1);
    }

    /** Sends the last point to 0 and the others to 1: the cycle, and then othersToOne. */
    private static int zeroLast(int n) {
        return n == 2 ? map(1, 0) : n == 3 ? map(1, 1, 0) : map(1, 1, 1, 0);
    }

    private static int swapLast(int n) {
        return n == 2 ? map(0, 1) : n == 3 ? map(0, 2, 1) : map(0, 1, 3, 2);
    }

    private static void theLastBoundCall() {
        boundary("What it is: the 512th call is bound, after questions", () -> {
            TransformMonoid x = full(4);
            for (int call = 4; call <= 511; call++) {
                x.ideal(call % 3, call % 256);
            }
            due("size() as call 512", x.size(), 256);
        });
        boundary("What it is: the 512th call is bound, a question that asks for much", () -> {
            TransformMonoid x = full(4);
            for (int call = 4; call <= 511; call++) {
                x.kernel();
            }
            due("classes(2) as call 512", x.classes(2), 4);
        });
        boundary("What it is: the 512th call is bound, after changes", () -> {
            TransformMonoid x = new TransformMonoid(3);
            for (int call = 1; call <= 510; call += 2) {
                due("generate as call " + call, x.generate(call % 27), 0);
                due("drop as call " + (call + 1), x.drop(), call % 27);
            }
            due("generate as call 511", x.generate(map(1, 2, 0)), 0);
            due("size() as call 512", x.size(), 3);
        });
        boundary("What it is: the 512th call is bound, after refused calls", () -> {
            TransformMonoid x = new TransformMonoid(2);
            for (int call = 1; call <= 510; call += 2) {
                due("generate(4) as call " + call, x.generate(4), -1);
                due("drop() as call " + (call + 1), x.drop(), -1);
            }
            due("generate(2) as call 511", x.generate(2), 0);
            due("drop() as call 512", x.drop(), 2);
        });
    }

    private static void termsMapsAndProducts() {
        boundaryForEachN("Terms: the image of 0 comes first in a code", n -> {
            due("element(0), the identity", made(n).element(0), identity(n));
            due("product(cycle, 0 to 0 and the others to 1)", made(n).product(cycle(n), othersToOne(n)), zeroLast(n));
        });
        boundary("Terms: the product is first f, then g", () -> {
            due("product(f, g)", made(3).product(map(0, 0, 1), map(1, 2, 0)), map(1, 1, 2));
            due("product(g, f)", made(3).product(map(1, 2, 0), map(0, 0, 1)), map(0, 1, 0));
        });
        boundary("Terms: at most 4 generators", () -> {
            TransformMonoid x = made(3, 0, 1, 2, 3);
            due("generate of a fifth", x.generate(4), -2);
            due("drop() of the fourth", x.drop(), 3);
        });
        boundary("Terms: generators are numbered from 0 in their order", () -> {
            TransformMonoid x = made(3, 0, 13, 26, map(1, 2, 0));
            due("letter of the first", x.letter(0, 0), 0);
            due("letter of the second", x.letter(13, 0), 1);
            due("letter of the third", x.letter(26, 0), 2);
            due("letter of the fourth", x.letter(map(1, 2, 0), 0), 3);
        });
        boundary("Terms: perhaps the same map twice", () -> {
            due("size() with a map 4 times", made(3, 15, 15, 15, 15).size(), 3);
            TransformMonoid x = made(3, 15, 4, 15);
            due("letter takes the first of the two", x.letter(15, 0), 0);
            due("drop() takes the second of the two", x.drop(), 15);
            due("has() of the first of the two", x.has(15), 1);
        });
        boundaryForEachN("Terms: the identity is an element without any generator", n -> {
            due("has(identity)", made(n).has(identity(n)), 1);
            due("has(0)", made(n).has(0), 0);
            due("has(last)", made(n).has(lastCode(n)), 0);
        });
        boundary("Terms: the identity is an element though no generator leads back to it", () ->
            due("has(identity)", made(3, 0).has(identity(3)), 1));
    }

    private static void termsWords() {
        boundaryForEachN("Terms: the empty word stands for the identity", n ->
            due("length(identity)", full(n).length(identity(n)), 0));
        boundaryForEachN("Terms: the empty word, though the identity is a generator", n -> {
            due("length(identity)", made(n, identity(n)).length(identity(n)), 0);
            due("letter(identity, 0)", made(n, identity(n)).letter(identity(n), 0), -3);
        });
        boundary("Terms: a shorter word goes before a lesser one", () -> {
            TransformMonoid x = made(4, cycle(4), map(2, 3, 0, 1));
            due("length of half a turn", x.length(map(2, 3, 0, 1)), 1);
            due("letter of half a turn", x.letter(map(2, 3, 0, 1), 0), 1);
        });
        boundary("Terms: of the shortest words the least from the left", () -> {
            TransformMonoid x = made(4, map(0, 1, 3, 2), map(1, 0, 2, 3));
            due("letter(both swaps, 0)", x.letter(map(1, 0, 3, 2), 0), 0);
            due("letter(both swaps, 1)", x.letter(map(1, 0, 3, 2), 1), 1);
        });
        boundary("Terms: the first number that differs decides", () -> {
            // With the swaps a and b of neighbours, the swap of the outer points is aba and bab.
            TransformMonoid x = made(3, map(1, 0, 2), map(0, 2, 1));
            int outer = map(2, 1, 0);
            due("length", x.length(outer), 3);
            due("letter(outer, 0)", x.letter(outer, 0), 0);
            due("letter(outer, 1)", x.letter(outer, 1), 1);
            due("letter(outer, 2)", x.letter(outer, 2), 0);
        });
        boundary("Terms: the word changes when a generator makes it shorter, and back", () -> {
            TransformMonoid x = made(4, cycle(4));
            due("length by turns", x.length(map(3, 0, 1, 2)), 3);
            x.generate(map(3, 0, 1, 2));
            due("length by the turn back", x.length(map(3, 0, 1, 2)), 1);
            due("letter by the turn back", x.letter(map(3, 0, 1, 2), 0), 1);
            x.drop();
            due("length by turns again", x.length(map(3, 0, 1, 2)), 3);
        });
    }

    private static void termsSets() {
        boundaryForEachN("Terms: an element is in its own sets", n -> {
            for (int kind = 0; kind < 3; kind++) {
                due("ideal(" + kind + ", identity) without generators", made(n).ideal(kind, identity(n)), 1);
                // Powers of it never come back to it: it is there by the product with the identity alone.
                due("ideal(" + kind + ", lower)", made(n, lower(n)).ideal(kind, lower(n)), n - 1);
            }
        });
        boundary("Terms: the right set multiplies on the right, the left set on the left", () -> {
            due("ideal(0, 0)", full(4).ideal(0, 0), 4);
            due("ideal(1, 0)", full(4).ideal(1, 0), 1);
        });
        boundary("Terms: the two-sided set is more than the right and the left set together", () -> {
            TransformMonoid all = full(3);
            due("ideal(0, 011)", all.ideal(0, map(0, 1, 1)), 9);
            due("ideal(1, 011)", all.ideal(1, map(0, 1, 1)), 8);
            due("ideal(2, 011)", all.ideal(2, map(0, 1, 1)), 21);
        });
        boundary("Terms: right-equal needs the same sets, not one within the other", () -> {
            int inner = map(0, 0, 1, 1);
            int outer = map(0, 0, 2, 2);
            TransformMonoid x = made(4, inner, outer);
            due("alike(0, inner, outer)", x.alike(0, inner, outer), 0);
            due("alike(0, outer, inner)", x.alike(0, outer, inner), 0);
        });
        boundary("Terms: left-equal needs the same sets, not one within the other", () -> {
            int inner = map(0, 0, 1, 1);
            int outer = map(0, 1, 0, 1);
            TransformMonoid x = made(4, inner, outer);
            due("alike(1, inner, outer)", x.alike(1, inner, outer), 0);
            due("alike(1, outer, inner)", x.alike(1, outer, inner), 0);
        });
        boundary("Terms: two-sided-equal needs the same sets, not one within the other", () -> {
            TransformMonoid x = made(4, map(0, 0, 1, 1), map(0, 1, 0, 1));
            due("alike(2, inner, outer)", x.alike(2, map(0, 0, 1, 1), map(0, 1, 0, 1)), 0);
            due("alike(2, outer, inner)", x.alike(2, map(0, 1, 0, 1), map(0, 0, 1, 1)), 0);
        });
        boundary("Terms: sets of as many members need not be the same", () -> {
            TransformMonoid x = constants();
            due("ideal(1, 0)", x.ideal(1, 0), 1);
            due("ideal(1, 3)", x.ideal(1, 3), 1);
            due("alike(1, 0, 3)", x.alike(1, 0, 3), 0);
        });
    }

    private static void promise1() {
        int[] tooSmall = {1, 0, -1, MIN};
        for (int points : tooSmall) {
            boundary("1: below 2 becomes 2: " + points, () -> {
                TransformMonoid x = new TransformMonoid(points);
                due("points()", x.points(), 2);
                due("rank(3)", x.rank(3), 1);
                due("rank(4)", x.rank(4), -1);
            });
        }
        int[] tooLarge = {5, 6, 256, MAX};
        for (int points : tooLarge) {
            boundary("1: above 4 becomes 4: " + points, () -> {
                TransformMonoid x = new TransformMonoid(points);
                due("points()", x.points(), 4);
                due("rank(255)", x.rank(255), 1);
                due("rank(256)", x.rank(256), -1);
            });
        }
        boundaryForEachN("1: 2 .. 4 stay as they are", n -> {
            TransformMonoid x = new TransformMonoid(n);
            due("points()", x.points(), n);
            due("rank(last)", x.rank(lastCode(n)), 1);
            due("rank(last + 1)", x.rank(codes(n)), -1);
        });
        boundaryForEachN("1: no generators at first", n -> {
            due("drop()", made(n).drop(), -1);
            due("size()", made(n).size(), 1);
            due("generate(0)", made(n).generate(0), 0);
        });
        boundary("1: a new object leaves an older one as it is", () -> {
            TransformMonoid older = made(3, cycle(3));
            TransformMonoid newer = made(2, map(0, 0), map(1, 1));
            due("size() of the older", older.size(), 3);
            due("points() of the older", older.points(), 3);
            newer.drop();
            due("drop() of the older", older.drop(), cycle(3));
            due("size() of the newer", newer.size(), 2);
        });
    }

    private static void promise2() {
        boundaryForEachN("2: points is n with no generator and with 4", n -> {
            TransformMonoid x = made(n);
            due("points() with none", x.points(), n);
            for (int i = 0; i < 4; i++) {
                x.generate(i);
            }
            due("points() with 4", x.points(), n);
        });
    }

    private static void promise3() {
        boundaryForEachN("3: -1 if code is not good: too small", n -> {
            due("generate(-1)", made(n).generate(-1), -1);
            due("generate(MIN)", made(n).generate(MIN), -1);
        });
        boundaryForEachN("3: -1 if code is not good: too large", n -> {
            due("generate(last + 1)", made(n).generate(codes(n)), -1);
            due("generate(MAX)", made(n).generate(MAX), -1);
        });
        boundaryForEachN("3: the first good code is taken", n -> {
            TransformMonoid x = made(n);
            due("generate(0)", x.generate(0), 0);
            due("has(0)", x.has(0), 1);
        });
        boundaryForEachN("3: the last good code is taken", n -> {
            TransformMonoid x = made(n);
            due("generate(last)", x.generate(lastCode(n)), 0);
            due("has(last)", x.has(lastCode(n)), 1);
        });
        boundaryForEachN("3: the fourth is taken, -2 if there are 4", n -> {
            TransformMonoid x = made(n, 0, 1, 2);
            due("generate of the fourth", x.generate(3), 3);
            due("generate of a fifth", x.generate(3), -2);
            due("generate of a fifth again", x.generate(0), -2);
        });
        boundaryForEachN("3: -2 if there are 4, though the map is an element already", n ->
            due("generate(identity)", made(n, 0, 0, 0, 0).generate(identity(n)), -2));
        boundaryForEachN("3: the code is tested before the number of generators", n -> {
            TransformMonoid x = made(n, 0, 1, 2, 3);
            due("generate(-1) with 4", x.generate(-1), -1);
            due("generate(last + 1) with 4", x.generate(codes(n)), -1);
            due("generate(MIN) with 4", x.generate(MIN), -1);
            due("generate(MAX) with 4", x.generate(MAX), -1);
        });
        boundaryForEachN("3: at the end of the list", n -> {
            TransformMonoid x = made(n, 3, 1, 2);
            due("first drop()", x.drop(), 2);
            due("second drop()", x.drop(), 1);
            due("third drop()", x.drop(), 3);
        });
        boundaryForEachN("3: room again after a drop from 4", n -> {
            TransformMonoid x = made(n, 0, 1, 2, 3);
            x.drop();
            due("generate after drop()", x.generate(1), 3);
            due("generate of a fifth", x.generate(1), -2);
            due("drop() of the new fourth", x.drop(), 1);
        });
    }

    private static void promise4() {
        boundaryForEachN("4: -1 if there is none, at first", n -> {
            TransformMonoid x = made(n);
            due("drop()", x.drop(), -1);
            due("drop() again", x.drop(), -1);
        });
        boundaryForEachN("4: -1 if there is none, after the last went", n -> {
            TransformMonoid x = made(n, 0);
            due("drop() of the only one", x.drop(), 0);
            due("drop() of none", x.drop(), -1);
        });
        boundaryForEachN("4: -1 if there is none, after a refused generate", n -> {
            TransformMonoid x = made(n);
            x.generate(-1);
            x.generate(codes(n));
            due("drop()", x.drop(), -1);
        });
        boundaryForEachN("4: answers its code, the first good one and the last", n -> {
            due("drop() of 0", made(n, 1, 0).drop(), 0);
            due("drop() of the last code", made(n, 1, lastCode(n)).drop(), lastCode(n));
        });
        boundaryForEachN("4: all 4 go, the last first", n -> {
            TransformMonoid x = made(n, 0, 2, 3, 1);
            due("drop() of number 3", x.drop(), 1);
            due("drop() of number 2", x.drop(), 3);
            due("drop() of number 1", x.drop(), 2);
            due("drop() of number 0", x.drop(), 0);
            due("size() of none", x.size(), 1);
        });
        boundaryForEachN("4: what only the dropped one made is gone, the rest stays", n -> {
            TransformMonoid x = made(n, cycle(n), 0);
            x.drop();
            due("has(0)", x.has(0), 0);
            due("size()", x.size(), n);
        });
    }

    private static void promise5() {
        boundaryForEachN("5: -1 if f is not good: too small", n -> {
            due("product(-1, 0)", made(n).product(-1, 0), -1);
            due("product(MIN, 0)", made(n).product(MIN, 0), -1);
        });
        boundaryForEachN("5: -1 if f is not good: too large", n -> {
            due("product(last + 1, 0)", made(n).product(codes(n), 0), -1);
            due("product(MAX, 0)", made(n).product(MAX, 0), -1);
        });
        boundaryForEachN("5: -1 if g is not good: too small", n -> {
            due("product(0, -1)", made(n).product(0, -1), -1);
            due("product(0, MIN)", made(n).product(0, MIN), -1);
        });
        boundaryForEachN("5: -1 if g is not good: too large", n -> {
            due("product(0, last + 1)", made(n).product(0, codes(n)), -1);
            due("product(0, MAX)", made(n).product(0, MAX), -1);
        });
        boundaryForEachN("5: -1 if neither is good", n -> {
            due("product(-1, -1)", made(n).product(-1, -1), -1);
            due("product(last + 1, -1)", made(n).product(codes(n), -1), -1);
        });
        boundaryForEachN("5: the first and the last good code", n -> {
            due("product(0, 0)", made(n).product(0, 0), 0);
            due("product(0, last)", made(n).product(0, lastCode(n)), lastCode(n));
            due("product(last, 0)", made(n).product(lastCode(n), 0), 0);
            due("product(last, last)", made(n).product(lastCode(n), lastCode(n)), lastCode(n));
        });
        boundaryForEachN("5: of two maps, elements or not", n -> {
            due("no elements", made(n).product(cycle(n), 0), 0);
            due("elements", made(n, cycle(n), 0).product(cycle(n), 0), 0);
        });
    }

    private static void promise6() {
        boundaryForEachN("6: no generators", n -> due("size()", made(n).size(), 1));
        boundaryForEachN("6: the identity as the only generator", n -> due("size()", made(n, identity(n)).size(), 1));
        boundaryForEachN("6: all maps", n -> due("size()", full(n).size(), codes(n)));
        boundaryForEachN("6: 4 generators", n -> {
            TransformMonoid x = made(n, 0, 0, 0);
            due("size() of 3", x.size(), 2);
            x.generate(lastCode(n));
            due("size() of 4", x.size(), 3);
        });
    }

    private static void promise7() {
        boundaryForEachN("7: -1 if code is not good: too small", n -> {
            due("has(-1)", full(n).has(-1), -1);
            due("has(MIN)", full(n).has(MIN), -1);
        });
        boundaryForEachN("7: -1 if code is not good: too large", n -> {
            due("has(last + 1)", full(n).has(codes(n)), -1);
            due("has(MAX)", full(n).has(MAX), -1);
        });
        boundaryForEachN("7: 1 for the first and the last good code", n -> {
            due("has(0)", full(n).has(0), 1);
            due("has(last)", full(n).has(lastCode(n)), 1);
        });
        boundaryForEachN("7: otherwise 0, for the first and the last good code", n -> {
            due("has(0)", made(n, cycle(n)).has(0), 0);
            due("has(last)", made(n, cycle(n)).has(lastCode(n)), 0);
        });
    }

    private static void promise8() {
        boundaryForEachN("8: 0 for the first", n -> {
            due("element(0) of the least", made(n).element(0), identity(n));
            due("element(0) of all", full(n).element(0), 0);
        });
        boundaryForEachN("8: the last", n -> {
            due("element(size - 1)", full(n).element(lastCode(n)), lastCode(n));
            due("element(1) of two", made(n, lastCode(n)).element(1), lastCode(n));
        });
        boundaryForEachN("8: -1 if there is no such one: too small", n -> {
            due("element(-1)", full(n).element(-1), -1);
            due("element(MIN)", full(n).element(MIN), -1);
        });
        boundaryForEachN("8: -1 if there is no such one: one too large, of all maps", n -> {
            due("element(size)", full(n).element(codes(n)), -1);
            due("element(MAX)", full(n).element(MAX), -1);
        });
        boundaryForEachN("8: -1 if there is no such one: one too large, of few elements", n -> {
            due("element(1) of one", made(n).element(1), -1);
            due("element(2) of two", made(n, 0).element(2), -1);
        });
        boundaryForEachN("8: in rising order of codes, not in that of the generators", n -> {
            TransformMonoid x = made(n, lastCode(n), 0);
            due("element(0)", x.element(0), 0);
            due("element(1)", x.element(1), identity(n));
            due("element(2)", x.element(2), lastCode(n));
        });
    }

    private static void promise9() {
        boundaryForEachN("9: -1 if code is not good: too small", n -> {
            due("length(-1)", full(n).length(-1), -1);
            due("length(MIN)", full(n).length(MIN), -1);
        });
        boundaryForEachN("9: -1 if code is not good: too large", n -> {
            due("length(last + 1)", full(n).length(codes(n)), -1);
            due("length(MAX)", full(n).length(MAX), -1);
        });
        boundaryForEachN("9: -2 if it is no element: the first and the last good code", n -> {
            due("length(0)", made(n).length(0), -2);
            due("length(last)", made(n).length(lastCode(n)), -2);
        });
        boundaryForEachN("9: the first and the last good code as elements", n -> {
            due("length(0)", made(n, 0, lastCode(n)).length(0), 1);
            due("length(last)", made(n, 0, lastCode(n)).length(lastCode(n)), 1);
        });
        boundaryForEachN("9: -2 again after the drop", n -> {
            TransformMonoid x = made(n, 0);
            x.drop();
            due("length(0)", x.length(0), -2);
        });
    }

    private static void promise10() {
        boundaryForEachN("10: -1 if code is not good: too small", n -> {
            due("letter(-1, 0)", full(n).letter(-1, 0), -1);
            due("letter(MIN, 0)", full(n).letter(MIN, 0), -1);
        });
        boundaryForEachN("10: -1 if code is not good: too large", n -> {
            due("letter(last + 1, 0)", full(n).letter(codes(n), 0), -1);
            due("letter(MAX, 0)", full(n).letter(MAX, 0), -1);
        });
        boundaryForEachN("10: -2 if it is no element: the first and the last good code", n -> {
            due("letter(0, 0)", made(n).letter(0, 0), -2);
            due("letter(last, 0)", made(n).letter(lastCode(n), 0), -2);
        });
        boundaryForEachN("10: -3 if the word has no such place: too small", n -> {
            due("letter(0, -1)", made(n, 0).letter(0, -1), -3);
            due("letter(0, MIN)", made(n, 0).letter(0, MIN), -3);
        });
        boundary("10: -3 if the word has no such place: one too large", () -> {
            due("letter(0, 1) of a word of 1", made(4, 0).letter(0, 1), -3);
            due("letter(0, 3) of a word of 3", descent().letter(0, 3), -3);
            due("letter(0, MAX)", descent().letter(0, MAX), -3);
        });
        boundaryForEachN("10: -3 for every place of the empty word", n -> {
            due("letter(identity, 0)", full(n).letter(identity(n), 0), -3);
            due("letter(identity, -1)", full(n).letter(identity(n), -1), -3);
            due("letter(identity, 1)", full(n).letter(identity(n), 1), -3);
        });
        boundary("10: the first and the last place", () -> {
            // The word of 0 1 1 and the turn after it: 1, 0.
            TransformMonoid x = made(3, cycle(3), map(0, 1, 1));
            due("first letter", x.letter(map(1, 2, 2), 0), 1);
            due("last letter", x.letter(map(1, 2, 2), 1), 0);
        });
        boundaryForEachN("10: the code is tested before the place", n -> {
            due("letter(-1, -1)", full(n).letter(-1, -1), -1);
            due("letter(last + 1, MAX)", full(n).letter(codes(n), MAX), -1);
        });
        boundaryForEachN("10: the element is tested before the place", n -> {
            due("letter(0, -1)", made(n).letter(0, -1), -2);
            due("letter(0, MAX)", made(n).letter(0, MAX), -2);
        });
        boundaryForEachN("10: numbers up to 3, of 4 generators", n ->
            due("letter(last, 0)", made(n, 0, 0, 0, lastCode(n)).letter(lastCode(n), 0), 3));
    }

    private static void promise11() {
        boundaryForEachN("11: no generators", n -> due("longest()", made(n).longest(), 0));
        boundaryForEachN("11: the identity as the only generator", n -> due("longest()", made(n, identity(n)).longest(), 0));
        boundaryForEachN("11: 4 generators that all are elements of length 1", n ->
            due("longest()", made(n, 0, lastCode(n), identity(n), 0).longest(), 1));
        boundaryForEachN("11: one generator, each power longer than the one before", n ->
            due("longest()", made(n, cycle(n)).longest(), n - 1));
        boundary("11: all maps of 3 points", () -> due("longest()", full(3).longest(), 5));
    }

    private static void promise12() {
        boundaryForEachN("12: no generators: the identity", n -> due("idempotents()", made(n).idempotents(), 1));
        boundaryForEachN("12: the identity alone is one in a group", n -> due("idempotents()", made(n, cycle(n)).idempotents(), 1));
        boundaryForEachN("12: every element is one", n -> due("idempotents()", made(n, 0, lastCode(n)).idempotents(), 3));
        boundaryForEachN("12: all maps", n -> due("idempotents()", full(n).idempotents(), n == 2 ? 3 : n == 3 ? 10 : 41));
        boundaryForEachN("12: of elements alone, not of all maps", n -> due("idempotents()", made(n, 0).idempotents(), 2));
    }

    private static void promise13() {
        boundaryForEachN("13: no generators: the identity", n -> due("units()", made(n).units(), 1));
        boundaryForEachN("13: all elements are units", n -> due("units()", made(n, cycle(n)).units(), n));
        boundaryForEachN("13: the identity alone is one", n -> due("units()", made(n, 0, lastCode(n)).units(), 1));
        boundaryForEachN("13: all maps", n -> due("units()", full(n).units(), n == 2 ? 2 : n == 3 ? 6 : 24));
        boundary("13: the product has to be the identity map, not another idempotent", () ->
            due("units()", made(3, map(1, 0, 0)).units(), 1));
    }

    private static void promise14() {
        boundaryForEachN("14: -1 if code is not good: too small", n -> {
            due("rank(-1)", made(n).rank(-1), -1);
            due("rank(MIN)", made(n).rank(MIN), -1);
        });
        boundaryForEachN("14: -1 if code is not good: too large", n -> {
            due("rank(last + 1)", made(n).rank(codes(n)), -1);
            due("rank(MAX)", made(n).rank(MAX), -1);
        });
        boundaryForEachN("14: one image, the first and the last good code", n -> {
            due("rank(0)", made(n).rank(0), 1);
            due("rank(last)", made(n).rank(lastCode(n)), 1);
        });
        boundaryForEachN("14: as many images as points", n -> {
            due("rank(identity)", made(n).rank(identity(n)), n);
            due("rank(cycle)", made(n).rank(cycle(n)), n);
        });
        boundaryForEachN("14: of a map, element or not", n -> {
            due("rank(fold), no element", made(n).rank(fold(n)), n - 1);
            due("rank(fold), an element", full(n).rank(fold(n)), n - 1);
        });
    }

    private static void promises15And16() {
        boundaryForEachN("15: -1 if code is not good: too small", n -> {
            due("index(-1)", made(n).index(-1), -1);
            due("index(MIN)", made(n).index(MIN), -1);
        });
        boundaryForEachN("15: -1 if code is not good: too large", n -> {
            due("index(last + 1)", made(n).index(codes(n)), -1);
            due("index(MAX)", made(n).index(MAX), -1);
        });
        boundaryForEachN("15: k >= 1, for the identity too", n -> due("index(identity)", made(n).index(identity(n)), 1));
        boundaryForEachN("15: the first and the last good code", n -> {
            due("index(0)", made(n).index(0), 1);
            due("index(last)", made(n).index(lastCode(n)), 1);
        });
        boundaryForEachN("15: the greatest index", n -> due("index(lower)", made(n).index(lower(n)), n - 1));
        boundaryForEachN("15: of a map, element or not", n -> due("index(lower)", full(n).index(lower(n)), n - 1));
        boundary("15: the least k, before powers that come round in more than one step", () ->
            due("index(1002)", made(4).index(map(1, 0, 0, 2)), 2));
        boundaryForEachN("16: -1 if code is not good: too small", n -> {
            due("period(-1)", made(n).period(-1), -1);
            due("period(MIN)", made(n).period(MIN), -1);
        });
        boundaryForEachN("16: -1 if code is not good: too large", n -> {
            due("period(last + 1)", made(n).period(codes(n)), -1);
            due("period(MAX)", made(n).period(MAX), -1);
        });
        boundaryForEachN("16: m >= 1, for the identity too", n -> due("period(identity)", made(n).period(identity(n)), 1));
        boundaryForEachN("16: the first and the last good code", n -> {
            due("period(0)", made(n).period(0), 1);
            due("period(last)", made(n).period(lastCode(n)), 1);
        });
        boundaryForEachN("16: the greatest period", n -> due("period(cycle)", made(n).period(cycle(n)), n));
        boundaryForEachN("16: of a map, element or not", n -> due("period(cycle)", full(n).period(cycle(n)), n));
        boundaryForEachN("16: for that k, where the first power never comes again", n ->
            due("period(lower)", made(n).period(lower(n)), 1));
        boundary("16: the least m, not a multiple", () -> {
            due("period(1002)", made(4).period(map(1, 0, 0, 2)), 2);
            due("period(1200)", made(4).period(map(1, 2, 0, 0)), 3);
        });
    }

    private static void promise17() {
        boundaryForEachN("17: -1 if kind is not in 0 .. 2: too small", n -> {
            due("classes(-1)", full(n).classes(-1), -1);
            due("classes(MIN)", full(n).classes(MIN), -1);
        });
        boundaryForEachN("17: -1 if kind is not in 0 .. 2: too large", n -> {
            due("classes(3)", full(n).classes(3), -1);
            due("classes(MAX)", full(n).classes(MAX), -1);
        });
        boundary("17: kind 0, the first", () -> due("classes(0)", full(3).classes(0), 5));
        boundary("17: kind 1", () -> due("classes(1)", full(3).classes(1), 7));
        boundary("17: kind 2, the last", () -> due("classes(2)", full(3).classes(2), 3));
        for (int k = 0; k < 3; k++) {
            int kind = k;
            boundaryForEachN("17: no generators, kind " + kind, n -> due("classes", made(n).classes(kind), 1));
            boundaryForEachN("17: all elements in one class, kind " + kind, n ->
                due("classes", made(n, cycle(n)).classes(kind), 1));
            boundaryForEachN("17: each element in a class of its own, kind " + kind, n ->
                due("classes", made(n, lower(n)).classes(kind), n));
        }
    }

    private static void promise18() {
        boundaryForEachN("18: -1 if kind is not in 0 .. 2: too small", n -> {
            due("alike(-1, 0, 0)", full(n).alike(-1, 0, 0), -1);
            due("alike(MIN, 0, 0)", full(n).alike(MIN, 0, 0), -1);
        });
        boundaryForEachN("18: -1 if kind is not in 0 .. 2: too large", n -> {
            due("alike(3, 0, 0)", full(n).alike(3, 0, 0), -1);
            due("alike(MAX, 0, 0)", full(n).alike(MAX, 0, 0), -1);
        });
        boundaryForEachN("18: the kind is tested before the codes", n -> {
            due("alike(-1, 0, 0), no elements", made(n).alike(-1, 0, 0), -1);
            due("alike(3, 0, 0), no elements", made(n).alike(3, 0, 0), -1);
            due("alike(3, -1, last + 1)", made(n).alike(3, -1, codes(n)), -1);
        });
        for (int k = 0; k < 3; k++) {
            int kind = k;
            boundaryForEachN("18: -2 if f is good but no element, kind " + kind, n -> {
                due("alike(kind, 0, identity)", made(n).alike(kind, 0, identity(n)), -2);
                due("alike(kind, last, identity)", made(n).alike(kind, lastCode(n), identity(n)), -2);
            });
            boundaryForEachN("18: -2 if g is good but no element, kind " + kind, n -> {
                due("alike(kind, identity, 0)", made(n).alike(kind, identity(n), 0), -2);
                due("alike(kind, identity, last)", made(n).alike(kind, identity(n), lastCode(n)), -2);
            });
            boundaryForEachN("18: -2 if neither is an element, be they the same, kind " + kind, n -> {
                due("alike(kind, 0, 0)", made(n).alike(kind, 0, 0), -2);
                due("alike(kind, 0, last)", made(n).alike(kind, 0, lastCode(n)), -2);
            });
            boundaryForEachN("18: -2 if f is not even good, kind " + kind, n -> {
                for (int bad : new int[] {MIN, -1, codes(n), MAX}) {
                    due("alike(kind, " + bad + ", 0)", full(n).alike(kind, bad, 0), -2);
                }
            });
            boundaryForEachN("18: -2 if g is not even good, kind " + kind, n -> {
                for (int bad : new int[] {MIN, -1, codes(n), MAX}) {
                    due("alike(kind, 0, " + bad + ")", full(n).alike(kind, 0, bad), -2);
                }
            });
            boundaryForEachN("18: an element and itself, kind " + kind, n -> {
                due("alike(kind, 0, 0)", full(n).alike(kind, 0, 0), 1);
                due("alike(kind, last, last)", full(n).alike(kind, lastCode(n), lastCode(n)), 1);
                due("alike(kind, identity, identity)", made(n).alike(kind, identity(n), identity(n)), 1);
            });
            boundaryForEachN("18: otherwise 0: the identity and a constant, kind " + kind, n -> {
                due("alike(kind, identity, 0)", full(n).alike(kind, identity(n), 0), 0);
                due("alike(kind, 0, identity)", full(n).alike(kind, 0, identity(n)), 0);
            });
        }
        boundaryForEachN("18: the first and the last good code, by kind", n -> {
            due("alike(0, 0, last)", full(n).alike(0, 0, lastCode(n)), 1);
            due("alike(1, 0, last)", full(n).alike(1, 0, lastCode(n)), 0);
            due("alike(2, 0, last)", full(n).alike(2, 0, lastCode(n)), 1);
        });
        boundary("18: left-equal but not right-equal", () -> {
            due("alike(0, 011, 001)", full(3).alike(0, map(0, 1, 1), map(0, 0, 1)), 0);
            due("alike(1, 011, 001)", full(3).alike(1, map(0, 1, 1), map(0, 0, 1)), 1);
        });
        boundary("18: two-sided-equal but neither right-equal nor left-equal", () -> {
            due("alike(0, 011, 002)", full(3).alike(0, map(0, 1, 1), map(0, 0, 2)), 0);
            due("alike(1, 011, 002)", full(3).alike(1, map(0, 1, 1), map(0, 0, 2)), 0);
            due("alike(2, 011, 002)", full(3).alike(2, map(0, 1, 1), map(0, 0, 2)), 1);
        });
    }

    private static void promise19() {
        boundaryForEachN("19: -1 if kind is not in 0 .. 2: too small", n -> {
            due("ideal(-1, 0)", full(n).ideal(-1, 0), -1);
            due("ideal(MIN, 0)", full(n).ideal(MIN, 0), -1);
        });
        boundaryForEachN("19: -1 if kind is not in 0 .. 2: too large", n -> {
            due("ideal(3, 0)", full(n).ideal(3, 0), -1);
            due("ideal(MAX, 0)", full(n).ideal(MAX, 0), -1);
        });
        boundaryForEachN("19: the kind is tested before the code", n -> {
            due("ideal(-1, 0), no element", made(n).ideal(-1, 0), -1);
            due("ideal(3, 0), no element", made(n).ideal(3, 0), -1);
            due("ideal(3, last + 1)", made(n).ideal(3, codes(n)), -1);
        });
        for (int k = 0; k < 3; k++) {
            int kind = k;
            boundaryForEachN("19: -2 if the code is good but no element, kind " + kind, n -> {
                due("ideal(kind, 0)", made(n).ideal(kind, 0), -2);
                due("ideal(kind, last)", made(n).ideal(kind, lastCode(n)), -2);
            });
            boundaryForEachN("19: -2 if the code is not even good, kind " + kind, n -> {
                for (int bad : new int[] {MIN, -1, codes(n), MAX}) {
                    due("ideal(kind, " + bad + ")", full(n).ideal(kind, bad), -2);
                }
            });
            boundaryForEachN("19: the set of the identity is the monoid, kind " + kind, n -> {
                due("ideal(kind, identity) of all", full(n).ideal(kind, identity(n)), codes(n));
                due("ideal(kind, identity) of one", made(n).ideal(kind, identity(n)), 1);
            });
        }
        boundaryForEachN("19: the first and the last good code, by kind", n -> {
            due("ideal(0, 0)", full(n).ideal(0, 0), n);
            due("ideal(1, 0)", full(n).ideal(1, 0), 1);
            due("ideal(2, 0)", full(n).ideal(2, 0), n);
            due("ideal(0, last)", full(n).ideal(0, lastCode(n)), n);
            due("ideal(1, last)", full(n).ideal(1, lastCode(n)), 1);
            due("ideal(2, last)", full(n).ideal(2, lastCode(n)), n);
        });
    }

    private static void promise20() {
        boundaryForEachN("20: no generators: the identity", n -> due("kernel()", made(n).kernel(), 1));
        boundaryForEachN("20: all elements, in a group", n -> due("kernel()", made(n, cycle(n)).kernel(), n));
        boundaryForEachN("20: one element that all lead to", n -> due("kernel()", made(n, lower(n)).kernel(), 1));
        boundaryForEachN("20: all maps: the constants", n -> due("kernel()", full(n).kernel(), n));
        boundary("20: no constant among the elements", () -> due("kernel()", made(4, map(1, 0, 0, 0)).kernel(), 2));
    }

    private static void promise21() {
        boundaryForEachN("21: no generators", n -> due("commutes()", made(n).commutes(), 1));
        boundaryForEachN("21: one generator", n -> due("commutes()", made(n, cycle(n)).commutes(), 1));
        boundaryForEachN("21: the same map 4 times", n ->
            due("commutes()", made(n, fold(n), fold(n), fold(n), fold(n)).commutes(), 1));
        boundaryForEachN("21: the identity beside another", n ->
            due("commutes()", made(n, identity(n), cycle(n)).commutes(), 1));
        for (int i = 0; i < 4; i++) {
            for (int j = 0; j < i; j++) {
                int first = j;
                int second = i;
                boundaryForEachN("21: of 4 generators only numbers " + j + " and " + i + " do not commute", n -> {
                    int[] generators = {identity(n), identity(n), identity(n), identity(n)};
                    generators[first] = 0;
                    generators[second] = lastCode(n);
                    due("commutes()", made(n, generators).commutes(), 0);
                });
            }
        }
        boundaryForEachN("21: 1 again when the one that does not commute is dropped", n -> {
            TransformMonoid x = made(n, 0, lastCode(n));
            due("commutes() with it", x.commutes(), 0);
            x.drop();
            due("commutes() without it", x.commutes(), 1);
        });
    }

    /** A call, and the answer that the definition of a monoid gives to it. */
    private record Asked(String call, ToIntFunction<TransformMonoid> ask, int answer) { }

    private static List<Asked> everyCall(Definition want) {
        int n = want.n;
        List<Asked> calls = new ArrayList<>();
        calls.add(new Asked("points()", x -> x.points(), n));
        calls.add(new Asked("size()", x -> x.size(), want.size()));
        calls.add(new Asked("longest()", x -> x.longest(), want.longest()));
        calls.add(new Asked("idempotents()", x -> x.idempotents(), want.idempotents()));
        calls.add(new Asked("units()", x -> x.units(), want.units()));
        calls.add(new Asked("kernel()", x -> x.kernel(), want.kernel()));
        calls.add(new Asked("commutes()", x -> x.commutes(), want.commutes()));
        int[] codes = {-1, 0, identity(n), cycle(n), fold(n), lower(n), swapLast(n), lastCode(n), codes(n)};
        for (int code : codes) {
            addCallsWithOneCode(calls, want, code);
            addCallsWithTwoCodes(calls, want, code, fold(n));
            addCallsWithTwoCodes(calls, want, identity(n), code);
        }
        for (int kind = -1; kind <= 3; kind++) {
            int asked = kind;
            calls.add(new Asked("classes(" + kind + ")", x -> x.classes(asked), want.classes(kind)));
        }
        addCallsThatChange(calls, want);
        return calls;
    }

    private static void addCallsWithOneCode(List<Asked> calls, Definition want, int code) {
        calls.add(new Asked("has(" + code + ")", x -> x.has(code), want.has(code)));
        calls.add(new Asked("element(" + code + ")", x -> x.element(code), want.elementAt(code)));
        calls.add(new Asked("length(" + code + ")", x -> x.length(code), want.length(code)));
        calls.add(new Asked("rank(" + code + ")", x -> x.rank(code), want.rank(code)));
        calls.add(new Asked("index(" + code + ")", x -> x.index(code), want.index(code)));
        calls.add(new Asked("period(" + code + ")", x -> x.period(code), want.period(code)));
        for (int p = -1; p <= want.length(code); p++) {
            int place = p;
            calls.add(new Asked("letter(" + code + ", " + p + ")", x -> x.letter(code, place), want.letter(code, p)));
        }
    }

    private static void addCallsWithTwoCodes(List<Asked> calls, Definition want, int f, int g) {
        calls.add(new Asked("product(" + f + ", " + g + ")", x -> x.product(f, g), want.product(f, g)));
        for (int k = 0; k < 3; k++) {
            int kind = k;
            calls.add(new Asked("alike(" + k + ", " + f + ", " + g + ")", x -> x.alike(kind, f, g), want.alike(k, f, g)));
            calls.add(new Asked("ideal(" + k + ", " + g + ")", x -> x.ideal(kind, g), want.ideal(k, g)));
        }
    }

    private static void addCallsThatChange(List<Asked> calls, Definition want) {
        calls.add(new Asked("generate(0)", x -> x.generate(0), want.generate(0)));
        if (want.generate(0) >= 0) {
            calls.add(new Asked("size() after generate(0)", x -> x.generate(0) + x.size(), want.generate(0) + want.withLast(0).size()));
        }
        Definition left = want;
        for (int d = 0; d <= want.generators.length; d++) {
            int drops = d;
            calls.add(new Asked("drop() after " + d + " of them", x -> dropped(x, drops).drop(), left.drop()));
            calls.add(new Asked("size() after " + d + " of drop()", x -> dropped(x, drops).size(), left.size()));
            left = left.drop() < 0 ? left : left.withoutLast();
        }
    }

    private static TransformMonoid dropped(TransformMonoid x, int times) {
        for (int i = 0; i < times; i++) {
            x.drop();
        }
        return x;
    }

    /** That the call is answered so, and that any other call after it answers as if it had not been made. */
    private static void changesNothing(String sentence, Definition want, ToIntFunction<TransformMonoid> call, int answer) {
        boundary(sentence + " (" + want.n + " points, " + want.generators.length + " generators)", () -> {
            // A new object for each: otherwise what one call changes would be laid to another.
            for (Asked other : EVERY_CALL.computeIfAbsent(want, BoundariesTest::everyCall)) {
                TransformMonoid x = made(want.n, want.generators);
                due("the call", call.applyAsInt(x), answer);
                due(other.call + " after the call", other.ask.applyAsInt(x), other.answer);
            }
        });
    }

    /** Lists of generators that all leave 0 where it is, so that the last code is never an element. */
    private static List<int[]> lists(int n) {
        return List.of(
            new int[] {},
            new int[] {lower(n)},
            new int[] {swapLast(n), fold(n)},
            new int[] {swapLast(n), fold(n), lower(n), fold(n)});
    }

    private static void refusedCalls(Definition want) {
        String nothing = "Terms: a refused call changes nothing: ";
        int n = want.n;
        int last = lastCode(n);
        int over = codes(n);
        int one = identity(n);
        changesNothing(nothing + "generate, too small", want, x -> x.generate(-1), -1);
        changesNothing(nothing + "generate, too large", want, x -> x.generate(over), -1);
        if (want.generators.length == 4) {
            changesNothing(nothing + "generate, there are 4", want, x -> x.generate(last), -2);
        }
        if (want.generators.length == 0) {
            changesNothing(nothing + "drop, there is none", want, x -> x.drop(), -1);
        }
        changesNothing(nothing + "product, f too small", want, x -> x.product(-1, 0), -1);
        changesNothing(nothing + "product, f too large", want, x -> x.product(over, 0), -1);
        changesNothing(nothing + "product, g too small", want, x -> x.product(0, -1), -1);
        changesNothing(nothing + "product, g too large", want, x -> x.product(0, over), -1);
        changesNothing(nothing + "has, too small", want, x -> x.has(-1), -1);
        changesNothing(nothing + "has, too large", want, x -> x.has(over), -1);
        changesNothing(nothing + "element, too small", want, x -> x.element(-1), -1);
        changesNothing(nothing + "element, too large", want, x -> x.element(over), -1);
        changesNothing(nothing + "length, too small", want, x -> x.length(-1), -1);
        changesNothing(nothing + "length, too large", want, x -> x.length(over), -1);
        changesNothing(nothing + "length, no element", want, x -> x.length(last), -2);
        changesNothing(nothing + "letter, too small", want, x -> x.letter(-1, 0), -1);
        changesNothing(nothing + "letter, too large", want, x -> x.letter(over, 0), -1);
        changesNothing(nothing + "letter, no element", want, x -> x.letter(last, 0), -2);
        changesNothing(nothing + "letter, no place", want, x -> x.letter(one, 0), -3);
        changesNothing(nothing + "rank, too small", want, x -> x.rank(-1), -1);
        changesNothing(nothing + "rank, too large", want, x -> x.rank(over), -1);
        changesNothing(nothing + "index, too small", want, x -> x.index(-1), -1);
        changesNothing(nothing + "index, too large", want, x -> x.index(over), -1);
        changesNothing(nothing + "period, too small", want, x -> x.period(-1), -1);
        changesNothing(nothing + "period, too large", want, x -> x.period(over), -1);
        changesNothing(nothing + "classes, kind too small", want, x -> x.classes(-1), -1);
        changesNothing(nothing + "classes, kind too large", want, x -> x.classes(3), -1);
        changesNothing(nothing + "alike, kind too small", want, x -> x.alike(-1, one, one), -1);
        changesNothing(nothing + "alike, kind too large", want, x -> x.alike(3, one, one), -1);
        changesNothing(nothing + "alike, f no element", want, x -> x.alike(0, last, one), -2);
        changesNothing(nothing + "alike, g no element", want, x -> x.alike(2, one, last), -2);
        changesNothing(nothing + "ideal, kind too small", want, x -> x.ideal(-1, one), -1);
        changesNothing(nothing + "ideal, kind too large", want, x -> x.ideal(3, one), -1);
        changesNothing(nothing + "ideal, no element", want, x -> x.ideal(1, last), -2);
    }

    private static void questions(Definition want) {
        String nothing = "Terms: no question changes anything: ";
        int n = want.n;
        int one = identity(n);
        changesNothing(nothing + "points", want, x -> x.points(), n);
        changesNothing(nothing + "product", want, x -> x.product(cycle(n), 0), 0);
        changesNothing(nothing + "size", want, x -> x.size(), want.size());
        changesNothing(nothing + "has", want, x -> x.has(one), 1);
        changesNothing(nothing + "has, no element", want, x -> x.has(lastCode(n)), 0);
        changesNothing(nothing + "element", want, x -> x.element(0), want.elementAt(0));
        changesNothing(nothing + "length", want, x -> x.length(one), 0);
        for (int generator : want.generators) {
            changesNothing(nothing + "letter", want, x -> x.letter(generator, 0), want.letter(generator, 0));
        }
        changesNothing(nothing + "longest", want, x -> x.longest(), want.longest());
        changesNothing(nothing + "idempotents", want, x -> x.idempotents(), want.idempotents());
        changesNothing(nothing + "units", want, x -> x.units(), want.units());
        changesNothing(nothing + "rank", want, x -> x.rank(lastCode(n)), 1);
        changesNothing(nothing + "index", want, x -> x.index(lower(n)), n - 1);
        changesNothing(nothing + "period", want, x -> x.period(cycle(n)), n);
        for (int k = 0; k < 3; k++) {
            int kind = k;
            changesNothing(nothing + "classes(" + kind + ")", want, x -> x.classes(kind), want.classes(kind));
            changesNothing(nothing + "alike of kind " + kind, want, x -> x.alike(kind, one, one), 1);
            changesNothing(nothing + "ideal of kind " + kind, want, x -> x.ideal(kind, one), want.size());
        }
        changesNothing(nothing + "kernel", want, x -> x.kernel(), want.kernel());
        changesNothing(nothing + "commutes", want, x -> x.commutes(), want.commutes());
    }

    private static void termsNothingChanges() {
        for (int n = 2; n <= 4; n++) {
            for (int[] list : lists(n)) {
                Definition want = new Definition(n, list);
                refusedCalls(want);
                questions(want);
            }
        }
    }

    public static void main(String[] args) {
        theLastBoundCall();
        termsMapsAndProducts();
        termsWords();
        termsSets();
        promise1();
        promise2();
        promise3();
        promise4();
        promise5();
        promise6();
        promise7();
        promise8();
        promise9();
        promise10();
        promise11();
        promise12();
        promise13();
        promise14();
        promises15And16();
        promise17();
        promise18();
        promise19();
        promise20();
        promise21();
        termsNothingChanges();
        System.out.println(held + " boundary cases hold, " + broken + " are broken");
        end();
    }
}
