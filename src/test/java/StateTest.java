import java.lang.reflect.Array;
import java.lang.reflect.Field;
import java.lang.reflect.Modifier;
import java.util.ArrayList;
import java.util.Arrays;
import java.util.List;
import java.util.Set;
import java.util.TreeSet;
import java.util.function.ToIntFunction;

/**
 * "No question changes anything. A refused call changes nothing." Seen by looking into the object, so that it holds
 * for whatever is called afterwards: a refused call leaves every field as it was, a question all but the room it
 * works in, and no call answers or does anything otherwise because of what lies in that room.
 */
public final class StateTest extends MonoidTest {
    private static final Set<String> ROOM = Set.of("reached", "waiting", "reachedCount", "setSize", "classed");
    private static final int[] FILLS = {0, 1, MIN, MAX};
    private static final List<Field> ROOM_FIELDS = new ArrayList<>();
    private static final List<Field> OTHER_FIELDS = new ArrayList<>();
    private static int refused = 0;
    private static int answered = 0;

    private record Call(String text, ToIntFunction<TransformMonoid> ask, boolean question) { }

    private final int n;
    private final int codes;
    private final int[] generators;
    private final List<Call> calls = new ArrayList<>();

    private StateTest(int n, int... generators) {
        this.n = n;
        this.codes = n == 2 ? 4 : n == 3 ? 27 : 256;
        this.generators = generators;
    }

    private static void findFields() {
        Set<String> room = new TreeSet<>(ROOM);
        for (Field field : TransformMonoid.class.getDeclaredFields()) {
            if (!Modifier.isStatic(field.getModifiers())) {
                field.setAccessible(true);
                (room.remove(field.getName()) ? ROOM_FIELDS : OTHER_FIELDS).add(field);
            }
        }
        if (!room.isEmpty()) {
            wrong("the class has no field named " + room);
        }
    }

    private static Object[] contents(List<Field> fields, TransformMonoid x) throws IllegalAccessException {
        Object[] contents = new Object[fields.size()];
        for (int i = 0; i < contents.length; i++) {
            contents[i] = copy(fields.get(i).get(x));
        }
        return contents;
    }

    private static Object copy(Object value) {
        if (!value.getClass().isArray()) {
            return value;
        }
        int length = Array.getLength(value);
        Object copy = Array.newInstance(value.getClass().getComponentType(), length);
        System.arraycopy(value, 0, copy, 0, length);
        return copy;
    }

    private static void fillRoom(TransformMonoid x, int fill) throws IllegalAccessException {
        for (Field field : ROOM_FIELDS) {
            if (field.get(x) instanceof int[] numbers) {
                Arrays.fill(numbers, fill);
            } else if (field.get(x) instanceof boolean[] marks) {
                Arrays.fill(marks, fill != 0);
            } else {
                field.setInt(x, fill);
            }
        }
    }

    private void check(Call call) throws IllegalAccessException {
        TransformMonoid plain = made(n, generators);
        int answer = call.ask.applyAsInt(plain);
        Object[] plainAfter = contents(OTHER_FIELDS, plain);
        for (int fill : FILLS) {
            String where = n + " points, generators " + Arrays.toString(generators) + ", room filled with " + fill
                + ": " + call.text;
            TransformMonoid x = made(n, generators);
            fillRoom(x, fill);
            Object[] roomBefore = contents(ROOM_FIELDS, x);
            Object[] before = contents(OTHER_FIELDS, x);
            due(where, call.ask.applyAsInt(x), answer);
            boolean unchanged = answer < 0 || call.question;
            mustBeSame(where, OTHER_FIELDS, contents(OTHER_FIELDS, x), unchanged ? before : plainAfter);
            if (answer < 0) {
                mustBeSame(where, ROOM_FIELDS, contents(ROOM_FIELDS, x), roomBefore);
            }
        }
        if (answer < 0) {
            refused++;
        } else {
            answered++;
        }
    }

    private static void mustBeSame(String where, List<Field> fields, Object[] got, Object[] want) {
        if (Arrays.deepEquals(got, want)) {
            return;
        }
        for (int i = 0; i < got.length; i++) {
            if (!Arrays.deepEquals(new Object[] {got[i]}, new Object[] {want[i]})) {
                wrong(where + " left " + fields.get(i).getName() + " otherwise than is due");
            }
        }
    }

    private void question(String text, ToIntFunction<TransformMonoid> ask) {
        calls.add(new Call(text, ask, true));
    }

    private void change(String text, ToIntFunction<TransformMonoid> ask) {
        calls.add(new Call(text, ask, false));
    }

    private void addCallsWithoutCodes() {
        change("drop()", x -> x.drop());
        question("points()", x -> x.points());
        question("size()", x -> x.size());
        question("longest()", x -> x.longest());
        question("idempotents()", x -> x.idempotents());
        question("units()", x -> x.units());
        question("kernel()", x -> x.kernel());
        question("commutes()", x -> x.commutes());
        for (int kind : new int[] {MIN, -1, 0, 1, 2, 3, MAX}) {
            question("classes(" + kind + ")", x -> x.classes(kind));
        }
    }

    private void addCallsWithOneCode(int code) {
        change("generate(" + code + ")", x -> x.generate(code));
        question("has(" + code + ")", x -> x.has(code));
        question("element(" + code + ")", x -> x.element(code));
        question("length(" + code + ")", x -> x.length(code));
        question("rank(" + code + ")", x -> x.rank(code));
        question("index(" + code + ")", x -> x.index(code));
        question("period(" + code + ")", x -> x.period(code));
        for (int place : new int[] {MIN, -1, 0, 1, 2, 5, 256, MAX}) {
            question("letter(" + code + ", " + place + ")", x -> x.letter(code, place));
        }
        for (int kind : new int[] {MIN, -1, 0, 1, 2, 3, MAX}) {
            question("ideal(" + kind + ", " + code + ")", x -> x.ideal(kind, code));
        }
    }

    private void addCallsWithTwoCodes(int f, int g) {
        question("product(" + f + ", " + g + ")", x -> x.product(f, g));
        for (int kind : new int[] {MIN, -1, 0, 1, 2, 3, MAX}) {
            question("alike(" + kind + ", " + f + ", " + g + ")", x -> x.alike(kind, f, g));
        }
    }

    /** Every call with every code and the first ones beyond; of the pairs of codes one in so many. */
    private void checkEveryCall(int pairStep) throws IllegalAccessException {
        int[] asked = new int[codes + 6];
        for (int i = 0; i < codes + 4; i++) {
            asked[i] = i - 2;
        }
        asked[codes + 4] = MIN;
        asked[codes + 5] = MAX;
        addCallsWithoutCodes();
        for (int code : asked) {
            addCallsWithOneCode(code);
        }
        for (int pair = 0; pair < asked.length * asked.length; pair += pairStep) {
            addCallsWithTwoCodes(asked[pair / asked.length], asked[pair % asked.length]);
        }
        for (Call call : calls) {
            check(call);
        }
    }

    private static void checkAllShortListsOfTwoPoints() throws IllegalAccessException {
        new StateTest(2).checkEveryCall(1);
        for (int first = 0; first < 4; first++) {
            new StateTest(2, first).checkEveryCall(1);
            for (int second = 0; second < 4; second++) {
                new StateTest(2, first, second).checkEveryCall(1);
                new StateTest(2, first, second, 0, 2).checkEveryCall(1);
            }
        }
    }

    public static void main(String[] args) throws IllegalAccessException {
        findFields();
        checkAllShortListsOfTwoPoints();
        new StateTest(3).checkEveryCall(7);
        new StateTest(3, map(0, 0, 1)).checkEveryCall(7);
        new StateTest(3, map(1, 2, 0), map(0, 0, 1)).checkEveryCall(1);
        new StateTest(3, map(0, 1, 1), map(0, 2, 1), map(0, 1, 1)).checkEveryCall(7);
        new StateTest(3, map(0, 1, 1), map(0, 2, 1), map(0, 0, 0), map(0, 1, 1)).checkEveryCall(7);
        new StateTest(4).checkEveryCall(499);
        new StateTest(4, map(0, 0, 1, 2)).checkEveryCall(499);
        new StateTest(4, map(1, 2, 3, 0), map(0, 1, 2, 0)).checkEveryCall(499);
        new StateTest(4, map(0, 1, 3, 2), map(0, 1, 2, 2), map(0, 0, 1, 2), map(0, 1, 2, 2)).checkEveryCall(499);
        System.out.println(refused + " refused calls and " + answered + " others looked into");
        end();
    }
}
