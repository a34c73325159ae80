/** What the tests with answers worked out by hand have in common: maps, lists of generators, and the count of wrong answers. */
abstract class MonoidTest {
    static final int MIN = Integer.MIN_VALUE;
    static final int MAX = Integer.MAX_VALUE;
    private static int wrong = 0;

    static void due(String call, int got, int want) {
        if (got != want) {
            wrong(call + " answered " + got + ", due is " + want);
        }
    }

    static void wrong(String what) {
        wrong++;
        System.out.println(what);
    }

    static int wrongSoFar() {
        return wrong;
    }

    static void end() {
        System.out.println(wrong == 0 ? "all answers are as due" : wrong + " answers are not as due");
        if (wrong != 0) {
            System.exit(1);
        }
    }

    /** The code of the map with these images: as many points as there are images. */
    static int map(int... images) {
        int code = 0;
        for (int image : images) {
            code = code * images.length + image;
        }
        return code;
    }

    static TransformMonoid made(int points, int... generators) {
        TransformMonoid x = new TransformMonoid(points);
        for (int i = 0; i < generators.length; i++) {
            due("generate(" + generators[i] + ") while making", x.generate(generators[i]), i);
        }
        return x;
    }

    /** All maps of n points. */
    static TransformMonoid full(int n) {
        switch (n) {
            case 2: return made(2, map(1, 0), map(0, 0));
            case 3: return made(3, map(1, 2, 0), map(0, 2, 1), map(0, 1, 1));
            default: return made(4, map(1, 2, 3, 0), map(1, 0, 2, 3), map(0, 0, 2, 3));
        }
    }

    /** The identity and the maps of 2 points that send both to one. */
    static TransformMonoid constants() {
        return made(2, map(0, 0), map(1, 1));
    }

    /** The identity and three powers: 0012, 0001, 0000. */
    static TransformMonoid descent() {
        return made(4, map(0, 0, 1, 2));
    }
}
