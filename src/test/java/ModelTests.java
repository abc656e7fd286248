import java.util.ArrayDeque;
import java.util.HashMap;
import java.util.HashSet;
import java.util.Map;
import java.util.Set;

/**
 * Long made-up runs of calls, wrong ones among them, compared with a second telling of the document.
 * The second telling decides subtyping by the document's other words: it follows the rules through
 * the parts of one pair and looks for a pair for which none holds.
 */
public final class ModelTests {
    private static final int RUNS = 600;
    private static final int CALLS = 512;

    private record Field(int of, boolean optional) { }

    private record Type(int shape, int argument, int result, Map<Integer, Field> fields) {
        static Type of(int shape) {
            return new Type(shape, -1, -1, new HashMap<>());
        }
    }

    private record Pair(int s, int t) { }

    private static final class Model {
        final Type[] types = new Type[16];

        Model() {
            for (int i = 0; i < 16; i++) {
                types[i] = Type.of(0);
            }
        }

        static boolean bad(int type) {
            return type < 0 || type > 15;
        }

        int shape(int type, int shape) {
            if (bad(type)) {
                return -1;
            }
            if (shape < 0 || shape > 5 || shape == 4) {
                return -4;
            }
            int old = types[type].shape;
            types[type] = Type.of(shape);
            return old;
        }

        int fun(int type, int argument, int result) {
            if (bad(type) || bad(argument) || bad(result)) {
                return -1;
            }
            int old = types[type].shape;
            types[type] = new Type(4, argument, result, new HashMap<>());
            return old;
        }

        int field(int type, int label, int of, int how) {
            if (bad(type) || bad(of)) {
                return -1;
            }
            if (label < 0 || label > 3) {
                return -2;
            }
            if (types[type].shape != 5) {
                return -3;
            }
            return types[type].fields.put(label, new Field(of, how != 0)) == null ? 0 : 1;
        }

        int dropField(int type, int label) {
            if (bad(type)) {
                return -1;
            }
            if (label < 0 || label > 3) {
                return -2;
            }
            if (types[type].shape != 5) {
                return -3;
            }
            return types[type].fields.remove(label) == null ? 0 : 1;
        }

        boolean subtype(int s, int t) {
            if (bad(s) || bad(t)) {
                return false;
            }
            Set<Pair> met = new HashSet<>();
            ArrayDeque<Pair> open = new ArrayDeque<>();
            open.add(new Pair(s, t));
            while (!open.isEmpty()) {
                Pair pair = open.remove();
                if (met.add(pair) && !follow(pair, open)) {
                    return false;
                }
            }
            return true;
        }

        private boolean follow(Pair pair, ArrayDeque<Pair> open) {
            Type s = types[pair.s];
            Type t = types[pair.t];
            if (t.shape == 2 || s.shape == 3) {
                return true;
            }
            if (s.shape == 4 && t.shape == 4) {
                open.add(new Pair(t.argument, s.argument));
                open.add(new Pair(s.result, t.result));
                return true;
            }
            if (s.shape == 5 && t.shape == 5) {
                for (Map.Entry<Integer, Field> wanted : t.fields.entrySet()) {
                    Field got = s.fields.get(wanted.getKey());
                    if (got == null || (got.optional && !wanted.getValue().optional)) {
                        return false;
                    }
                    open.add(new Pair(got.of, wanted.getValue().of));
                }
                return true;
            }
            return (s.shape == 0 && t.shape == 0) || (s.shape == 1 && t.shape == 1);
        }

        boolean equivalent(int s, int t) {
            return subtype(s, t) && subtype(t, s);
        }

        int subtypes(int t) {
            if (bad(t)) {
                return -1;
            }
            int mask = 0;
            for (int s = 0; s < 16; s++) {
                mask += subtype(s, t) ? 1 << s : 0;
            }
            return mask;
        }

        /** Equivalent types have the same subtypes and, being their own subtypes, only they do. */
        int kinds() {
            Set<Integer> masks = new HashSet<>();
            for (int t = 0; t < 16; t++) {
                masks.add(subtypes(t));
            }
            return masks.size();
        }

        int unrelated() {
            int pairs = 0;
            for (int s = 0; s < 16; s++) {
                for (int t = s + 1; t < 16; t++) {
                    pairs += subtype(s, t) || subtype(t, s) ? 0 : 1;
                }
            }
            return pairs;
        }

        int shapeOf(int type) {
            return bad(type) ? -1 : types[type].shape;
        }
    }

    private static int wrong = 0;
    private static long seed = 1;

    /** A fixed row of numbers, so that each run of the tests makes the same calls. */
    private static int below(int bound) {
        seed = seed * 6364136223846793005L + 1442695040888963407L;
        return (int) ((seed >>> 33) % bound);
    }

    private static int someType(int types) {
        int[] odd = {-1, 16, 17, -16, Integer.MIN_VALUE, Integer.MAX_VALUE};
        return below(25) == 0 ? odd[below(odd.length)] : below(types);
    }

    private static int someLabel() {
        int[] odd = {-1, 4, 5, Integer.MIN_VALUE, Integer.MAX_VALUE};
        return below(25) == 0 ? odd[below(odd.length)] : below(4);
    }

    private static int someShape() {
        int[] odd = {-1, 4, 6, Integer.MIN_VALUE, Integer.MAX_VALUE};
        int[] even = {0, 1, 2, 3, 5, 5, 5, 5, 5};
        return below(15) == 0 ? odd[below(odd.length)] : even[below(even.length)];
    }

    private static int someHow() {
        int[] hows = {0, 0, 0, 0, 0, 1, 2, -1, Integer.MIN_VALUE};
        return hows[below(hows.length)];
    }

    private static void due(String call, int got, int want) {
        if (got != want && wrong++ < 50) {
            System.out.println(call + " answered " + got + ", due is " + want);
        }
    }

    public static void main(String[] args) {
        for (int run = 0; run < RUNS; run++) {
            oneRun(run);
        }
        for (int run = 0; run < RUNS; run++) {
            knot(run);
        }
        System.out.println(wrong == 0 ? "all answers are as due" : wrong + " answers are not as due");
        if (wrong != 0) {
            System.exit(1);
        }
    }

    private static void oneRun(int run) {
        StructuralTypes x = new StructuralTypes();
        Model m = new Model();
        int types = 2 + below(15);
        int questions = 2 + below(8);
        for (int call = 0; call < CALLS; call++) {
            String where = "run " + run + ", call " + call + ": ";
            if (below(10) < questions) {
                ask(where, x, m, types);
            } else {
                change(where, x, m, types);
            }
        }
    }

    private static void change(String where, StructuralTypes x, Model m, int types) {
        int a = someType(types);
        int b = someType(types);
        int label = someLabel();
        switch (below(8)) {
            case 0 -> {
                int shape = someShape();
                due(where + "shape(" + a + ", " + shape + ")", x.shape(a, shape), m.shape(a, shape));
            }
            case 1, 2 -> {
                int c = someType(types);
                due(where + "fun(" + a + ", " + b + ", " + c + ")", x.fun(a, b, c), m.fun(a, b, c));
            }
            case 3 -> due(where + "dropField(" + a + ", " + label + ")", x.dropField(a, label), m.dropField(a, label));
            default -> {
                int how = someHow();
                due(where + "field(" + a + ", " + label + ", " + b + ", " + how + ")",
                        x.field(a, label, b, how), m.field(a, label, b, how));
            }
        }
    }

    private static void ask(String where, StructuralTypes x, Model m, int types) {
        int s = someType(types);
        int t = someType(types);
        switch (below(6)) {
            case 0 -> due(where + "subtype(" + s + ", " + t + ")", x.subtype(s, t) ? 1 : 0, m.subtype(s, t) ? 1 : 0);
            case 1 -> due(where + "equivalent(" + s + ", " + t + ")", x.equivalent(s, t) ? 1 : 0, m.equivalent(s, t) ? 1 : 0);
            case 2 -> due(where + "subtypes(" + t + ")", x.subtypes(t), m.subtypes(t));
            case 3 -> due(where + "kinds()", x.kinds(), m.kinds());
            case 4 -> due(where + "unrelated()", x.unrelated(), m.unrelated());
            default -> due(where + "shapeOf(" + t + ")", x.shapeOf(t), m.shapeOf(t));
        }
    }

    /** Types nearly all alike, so that most pairs hold or fail only because of far-off parts. */
    private static void knot(int run) {
        StructuralTypes x = new StructuralTypes();
        Model m = new Model();
        boolean functions = run % 2 == 0;
        for (int type = 0; type < 16; type++) {
            int a = below(16);
            int b = below(16);
            if (functions) {
                due("knot fun", x.fun(type, a, b), m.fun(type, a, b));
            } else {
                due("knot shape", x.shape(type, 5), m.shape(type, 5));
                due("knot field", x.field(type, 0, a, 0), m.field(type, 0, a, 0));
                due("knot field", x.field(type, 3, b, 0), m.field(type, 3, b, 0));
            }
        }
        int odd = below(16);
        switch (below(4)) {
            case 0 -> due("knot odd", x.shape(odd, 2), m.shape(odd, 2));
            case 1 -> due("knot odd", x.shape(odd, 3), m.shape(odd, 3));
            case 2 -> due("knot odd", x.field(odd, 3, odd, 1), m.field(odd, 3, odd, 1));
            default -> due("knot odd", x.dropField(odd, 0), m.dropField(odd, 0));
        }
        String where = "knot " + run + ": ";
        for (int t = 0; t < 16; t++) {
            due(where + "subtypes(" + t + ")", x.subtypes(t), m.subtypes(t));
        }
        due(where + "kinds()", x.kinds(), m.kinds());
        due(where + "unrelated()", x.unrelated(), m.unrelated());
    }
}
