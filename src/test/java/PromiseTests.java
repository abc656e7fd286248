/** Each promise of the document: ordinary inputs, the edges it names, and wrong inputs. */
public final class PromiseTests {
    private static final int INT = StructuralTypes.INT;
    private static final int BOOL = StructuralTypes.BOOL;
    private static final int ANY = StructuralTypes.ANY;
    private static final int NEVER = StructuralTypes.NEVER;
    private static final int FUN = StructuralTypes.FUN;
    private static final int RECORD = StructuralTypes.RECORD;
    private static final int BAD_TYPE = StructuralTypes.BAD_TYPE;
    private static final int BAD_LABEL = StructuralTypes.BAD_LABEL;
    private static final int NO_RECORD = StructuralTypes.NO_RECORD;
    private static final int BAD_SHAPE = StructuralTypes.BAD_SHAPE;

    private static final int[] NO_TYPES = {-1, 16, 17, 31, 32, 256, -16, Integer.MIN_VALUE, Integer.MAX_VALUE};
    private static final int[] NO_LABELS = {-1, 4, 5, 8, 64, -4, Integer.MIN_VALUE, Integer.MAX_VALUE};
    private static final int[] NO_SHAPES = {-1, FUN, 6, 7, 16, -5, Integer.MIN_VALUE, Integer.MAX_VALUE};

    private static int wrong = 0;

    private static void due(String what, int got, int want) {
        if (got != want) {
            wrong++;
            System.out.println(what + ": answered " + got + ", due is " + want);
        }
    }

    private static void due(String what, boolean got, boolean want) {
        due(what, got ? 1 : 0, want ? 1 : 0);
    }

    public static void main(String[] args) {
        aNewObject();
        shape();
        shapeForgetsFields();
        shapeWrongInputs();
        fun();
        funWrongInputs();
        field();
        fieldWrongInputs();
        dropField();
        dropFieldWrongInputs();
        subtypeOfPlainShapes();
        subtypeOfFunctions();
        subtypeOfRecords();
        subtypeOfSelfReferringTypes();
        subtypeFarAway();
        subtypeWrongInputs();
        equivalent();
        subtypes();
        kinds();
        unrelated();
        shapeOf();
        orderOfFaults();
        questionsChangeNothing();
        objectsAreApart();
        theWholeLife();
        System.out.println(wrong == 0 ? "all answers are as due" : wrong + " answers are not as due");
        if (wrong != 0) {
            System.exit(1);
        }
    }

    /** Types 0 to 5 are INT, BOOL, ANY, NEVER, FUN 0 1 and an empty RECORD; the rest are INT. */
    private static StructuralTypes oneOfEach() {
        StructuralTypes x = new StructuralTypes();
        x.shape(1, BOOL);
        x.shape(2, ANY);
        x.shape(3, NEVER);
        x.fun(4, 0, 1);
        x.shape(5, RECORD);
        return x;
    }

    private static String picture(StructuralTypes x) {
        StringBuilder all = new StringBuilder();
        for (int t = 0; t < 16; t++) {
            all.append(x.shapeOf(t)).append('/').append(x.subtypes(t)).append(' ');
        }
        return all.append(x.kinds()).append(' ').append(x.unrelated()).toString();
    }

    // Promise 1

    private static void aNewObject() {
        StructuralTypes x = new StructuralTypes();
        for (int t = 0; t < 16; t++) {
            due("1: shapeOf(" + t + ")", x.shapeOf(t), INT);
            due("1: subtypes(" + t + ")", x.subtypes(t), 0xFFFF);
            due("1: no record at " + t, x.dropField(t, 0), NO_RECORD);
        }
        due("1: kinds", x.kinds(), 1);
        due("1: unrelated", x.unrelated(), 0);
    }

    // Promise 2

    private static void shape() {
        int[] allowed = {INT, BOOL, ANY, NEVER, RECORD};
        for (int type = 0; type < 16; type++) {
            for (int from : allowed) {
                for (int to : allowed) {
                    StructuralTypes x = new StructuralTypes();
                    due("2: from INT", x.shape(type, from), INT);
                    due("2: old shape", x.shape(type, to), from);
                    due("2: new shape", x.shapeOf(type), to);
                    due("2: others stay", x.shapeOf((type + 1) % 16), INT);
                }
            }
        }
        StructuralTypes x = new StructuralTypes();
        x.fun(0, 1, 2);
        due("2: old shape FUN", x.shape(0, INT), FUN);
        due("2: FUN no more", x.shapeOf(0), INT);
    }

    private static void shapeForgetsFields() {
        StructuralTypes x = new StructuralTypes();
        x.shape(0, RECORD);
        for (int label = 0; label < 4; label++) {
            x.field(0, label, label, 0);
        }
        due("2: RECORD on RECORD", x.shape(0, RECORD), RECORD);
        for (int label = 0; label < 4; label++) {
            due("2: RECORD on RECORD has no field", x.dropField(0, label), 0);
        }
        for (int label = 0; label < 4; label++) {
            x.field(0, label, label, 1);
        }
        x.shape(0, BOOL);
        x.shape(0, RECORD);
        for (int label = 0; label < 4; label++) {
            due("2: RECORD again by BOOL has no field", x.field(0, label, 1, 0), 0);
        }
        x.fun(0, 0, 0);
        x.shape(0, RECORD);
        x.shape(1, RECORD);
        due("2: RECORD again by FUN has no field", x.equivalent(0, 1), true);

        x.shape(2, RECORD);
        x.field(2, 0, 0, 0);
        x.shape(1, RECORD);
        due("2: fields of the next type stay", x.dropField(2, 0), 1);
    }

    private static void shapeWrongInputs() {
        StructuralTypes x = oneOfEach();
        x.field(5, 0, 0, 0);
        String before = picture(x);
        for (int type : NO_TYPES) {
            due("2: no type " + type, x.shape(type, BOOL), BAD_TYPE);
        }
        for (int shape : NO_SHAPES) {
            due("2: no shape " + shape, x.shape(0, shape), BAD_SHAPE);
            due("2: no shape " + shape, x.shape(5, shape), BAD_SHAPE);
        }
        due("2: nothing changes", picture(x).equals(before), true);
        due("2: the field stays", x.dropField(5, 0), 1);
    }

    // Promise 3

    private static void fun() {
        StructuralTypes x = oneOfEach();
        int[] old = {INT, BOOL, ANY, NEVER, FUN, RECORD};
        for (int type = 0; type < 6; type++) {
            due("3: old shape", x.fun(type, type, 15), old[type]);
            due("3: new shape", x.shapeOf(type), FUN);
        }
        StructuralTypes y = oneOfEach();
        due("3: last type", y.fun(15, 15, 15), INT);
        y.fun(6, 0, 1);
        y.fun(7, 1, 0);
        due("3: the same parts", y.equivalent(4, 6), true);
        due("3: argument and result told apart", y.equivalent(4, 7), false);
        due("3: other parts", y.fun(7, 0, 1), FUN);
        due("3: the new parts count", y.equivalent(4, 7), true);
        due("3: parts are types, not shapes", y.shape(0, BOOL), INT);
        y.shape(8, BOOL);
        y.fun(9, 8, 8);
        due("3: a part's later shape counts", y.equivalent(4, 9), true);
    }

    private static void funWrongInputs() {
        StructuralTypes x = oneOfEach();
        x.field(5, 3, 1, 1);
        String before = picture(x);
        for (int bad : NO_TYPES) {
            due("3: bad type", x.fun(bad, 0, 0), BAD_TYPE);
            due("3: bad argument", x.fun(0, bad, 0), BAD_TYPE);
            due("3: bad result", x.fun(0, 0, bad), BAD_TYPE);
            due("3: bad argument on FUN", x.fun(4, bad, 2), BAD_TYPE);
            due("3: bad result on FUN", x.fun(4, 2, bad), BAD_TYPE);
            due("3: bad argument on RECORD", x.fun(5, bad, 2), BAD_TYPE);
            due("3: bad result on RECORD", x.fun(5, 2, bad), BAD_TYPE);
            due("3: all bad", x.fun(bad, bad, bad), BAD_TYPE);
        }
        due("3: nothing changes", picture(x).equals(before), true);
        due("3: the field stays", x.dropField(5, 3), 1);
    }

    // Promise 4

    private static void field() {
        for (int type = 0; type < 16; type++) {
            for (int label = 0; label < 4; label++) {
                StructuralTypes x = new StructuralTypes();
                x.shape(type, RECORD);
                due("4: a new field", x.field(type, label, 15, 0), 0);
                due("4: another type for it", x.field(type, label, 0, 0), 1);
                due("4: still a RECORD", x.shapeOf(type), RECORD);
                for (int other = 0; other < 4; other++) {
                    due("4: only this label", x.dropField(type, other), other == label ? 1 : 0);
                }
            }
        }
        fieldGetsAnotherType();
        fieldIsOptional();
    }

    private static void fieldGetsAnotherType() {
        StructuralTypes x = oneOfEach();
        x.shape(6, RECORD);
        x.field(5, 0, 0, 0);
        x.field(6, 0, 1, 0);
        due("4: INT and BOOL fields", x.subtype(5, 6), false);
        due("4: replaced", x.field(6, 0, 0, 0), 1);
        due("4: both INT fields", x.equivalent(5, 6), true);
        x.field(6, 0, 2, 0);
        due("4: ANY field above", x.subtype(5, 6), true);
        due("4: ANY field not below", x.subtype(6, 5), false);
    }

    private static void fieldIsOptional() {
        int[] optional = {1, 2, -1, 16, 256, 65536, Integer.MIN_VALUE, Integer.MAX_VALUE};
        StructuralTypes x = new StructuralTypes();
        x.shape(1, RECORD);
        x.shape(2, RECORD);
        x.field(1, 2, 0, 0);
        for (int how : optional) {
            due("4: now optional", x.field(2, 2, 0, how), how == 1 ? 0 : 1);
            due("4: how " + how + " is optional", x.subtype(2, 1), false);
            due("4: how " + how + " is above", x.subtype(1, 2), true);
            due("4: optional no more", x.field(2, 2, 0, 0), 1);
            due("4: how 0 is not optional", x.equivalent(1, 2), true);
        }
    }

    private static void fieldWrongInputs() {
        StructuralTypes x = oneOfEach();
        x.shape(6, RECORD);
        x.field(5, 0, 0, 0);
        x.field(6, 0, 0, 0);
        String before = picture(x);
        for (int bad : NO_TYPES) {
            due("4: bad type", x.field(bad, 0, 0, 0), BAD_TYPE);
            due("4: bad of", x.field(5, 0, bad, 1), BAD_TYPE);
            due("4: bad of, new label", x.field(5, 1, bad, 0), BAD_TYPE);
        }
        for (int label : NO_LABELS) {
            due("4: bad label " + label, x.field(5, label, 1, 1), BAD_LABEL);
            due("4: bad label " + label, x.field(6, label, 1, 1), BAD_LABEL);
        }
        for (int type = 0; type < 5; type++) {
            due("4: no record " + type, x.field(type, 0, 0, 0), NO_RECORD);
        }
        due("4: nothing changes", picture(x).equals(before), true);
        for (int label = 0; label < 4; label++) {
            due("4: no field came", x.dropField(5, label), label == 0 ? 1 : 0);
        }
        for (int type = 0; type < 5; type++) {
            x.shape(type, RECORD);
            due("4: no field waits", x.dropField(type, 0), 0);
        }
    }

    // Promise 5

    private static void dropField() {
        StructuralTypes x = new StructuralTypes();
        x.shape(0, RECORD);
        x.shape(15, RECORD);
        for (int label = 0; label < 4; label++) {
            due("5: none yet", x.dropField(15, label), 0);
            x.field(0, label, 1, 0);
            x.field(15, label, 1, label);
        }
        due("5: had it", x.dropField(15, 3), 1);
        due("5: has it no more", x.dropField(15, 3), 0);
        due("5: still a RECORD", x.shapeOf(15), RECORD);
        due("5: width grew smaller", x.subtype(15, 0), false);
        due("5: it comes as a new one", x.field(15, 3, 1, 0), 0);
        due("5: the others stay", x.dropField(15, 0), 1);
        due("5: the others stay", x.dropField(15, 1), 1);
        due("5: an optional one too", x.dropField(15, 2), 1);
        due("5: above now", x.subtype(0, 15), true);
        due("5: not below", x.subtype(15, 0), false);
        due("5: the other type's stay", x.dropField(0, 0), 1);
    }

    private static void dropFieldWrongInputs() {
        StructuralTypes x = oneOfEach();
        for (int label = 0; label < 4; label++) {
            x.field(5, label, 0, 0);
        }
        x.shape(6, RECORD);
        x.field(6, 0, 0, 0);
        String before = picture(x);
        for (int bad : NO_TYPES) {
            due("5: bad type", x.dropField(bad, 0), BAD_TYPE);
        }
        for (int label : NO_LABELS) {
            due("5: bad label " + label, x.dropField(5, label), BAD_LABEL);
        }
        for (int type = 0; type < 5; type++) {
            due("5: no record " + type, x.dropField(type, 0), NO_RECORD);
        }
        due("5: nothing changes", picture(x).equals(before), true);
        for (int label = 0; label < 4; label++) {
            due("5: the fields stay", x.dropField(5, label), 1);
        }
        due("5: the next type's field stays", x.dropField(6, 0), 1);
    }

    // Promise 6

    private static void subtypeOfPlainShapes() {
        StructuralTypes x = oneOfEach();
        for (int s = 0; s < 6; s++) {
            for (int t = 0; t < 6; t++) {
                boolean want = s == t || t == 2 || s == 3;
                due("6: shapes " + s + " and " + t, x.subtype(s, t), want);
            }
        }
        x.shape(6, BOOL);
        x.shape(7, ANY);
        x.shape(8, NEVER);
        x.shape(9, RECORD);
        due("6: both BOOL", x.subtype(1, 6), true);
        due("6: both ANY", x.subtype(2, 7), true);
        due("6: both NEVER", x.subtype(3, 8), true);
        due("6: both empty RECORD", x.subtype(5, 9), true);
    }

    private static void subtypeOfFunctions() {
        StructuralTypes x = oneOfEach();
        x.fun(6, 2, 0);
        x.fun(7, 0, 0);
        x.fun(8, 0, 2);
        x.fun(9, 3, 0);
        x.fun(10, 0, 3);
        due("6: a wider argument is below", x.subtype(6, 7), true);
        due("6: a narrower argument is not", x.subtype(7, 6), false);
        due("6: a wider result is above", x.subtype(7, 8), true);
        due("6: and not below", x.subtype(8, 7), false);
        due("6: both parts count", x.subtype(6, 8), true);
        due("6: both parts count", x.subtype(8, 6), false);
        due("6: NEVER as argument is above", x.subtype(7, 9), true);
        due("6: NEVER as argument is not below", x.subtype(9, 7), false);
        due("6: NEVER as result is below", x.subtype(10, 7), true);
        due("6: a wider argument alone is too little", x.subtype(8, 9), false);
        x.fun(11, 6, 0);
        x.fun(12, 7, 0);
        due("6: the argument's side turns", x.subtype(12, 11), true);
        due("6: the argument's side turns", x.subtype(11, 12), false);
        x.fun(13, 11, 0);
        x.fun(14, 12, 0);
        due("6: and turns back", x.subtype(13, 14), true);
        due("6: and turns back", x.subtype(14, 13), false);
    }

    private static void subtypeOfRecords() {
        StructuralTypes x = oneOfEach();
        x.shape(6, RECORD);
        x.field(6, 0, 0, 0);
        x.shape(7, RECORD);
        x.field(7, 0, 0, 0);
        x.field(7, 3, 1, 0);
        due("6: more fields are below", x.subtype(7, 6), true);
        due("6: fewer fields are not", x.subtype(6, 7), false);
        due("6: any record is below the empty one", x.subtype(7, 5), true);
        due("6: the empty one is not below", x.subtype(5, 6), false);
        x.shape(8, RECORD);
        x.field(8, 1, 0, 0);
        due("6: labels are told apart", x.subtype(8, 6), false);
        x.shape(9, RECORD);
        x.field(9, 0, 0, 1);
        due("6: needed is below optional", x.subtype(6, 9), true);
        due("6: optional is not below needed", x.subtype(9, 6), false);
        due("6: a missing field is not below an optional one", x.subtype(5, 9), false);
        due("6: an optional field is below none", x.subtype(9, 5), true);
        x.shape(10, RECORD);
        x.field(10, 0, 2, 1);
        due("6: both optional", x.subtype(9, 10), true);
        due("6: both optional, wrong type", x.subtype(10, 9), false);
        x.field(10, 0, 3, 1);
        due("6: optional, of NEVER", x.subtype(10, 9), true);
        x.field(10, 0, 1, 1);
        due("6: optional fields' types count", x.subtype(10, 9), false);
        x.field(8, 0, 3, 0);
        due("6: a NEVER field makes no NEVER", x.subtype(8, 0), false);
    }

    private static void subtypeOfSelfReferringTypes() {
        StructuralTypes x = oneOfEach();
        x.fun(6, 6, 6);
        x.fun(7, 8, 7);
        x.fun(8, 7, 8);
        due("6: circles of one and two", x.subtype(6, 7), true);
        due("6: circles of one and two", x.subtype(8, 6), true);
        x.fun(8, 7, 2);
        due("6: a way out of the circle", x.subtype(6, 7), false);
        due("6: a way out upwards alone", x.subtype(7, 6), true);

        x.shape(9, RECORD);
        x.field(9, 0, 9, 0);
        x.shape(10, RECORD);
        x.field(10, 0, 11, 0);
        x.shape(11, RECORD);
        x.field(11, 0, 10, 0);
        due("6: records in circles", x.subtype(9, 10), true);
        due("6: records in circles", x.subtype(10, 9), true);
        x.field(11, 1, 0, 0);
        due("6: more fields further in", x.subtype(10, 9), true);
        due("6: fewer fields further in", x.subtype(9, 10), false);
        x.dropField(11, 1);
        x.field(11, 0, 10, 1);
        due("6: optional further in", x.subtype(9, 10), true);
        due("6: optional further in", x.subtype(10, 9), false);
    }

    /** Circles of seven and eight meet in 56 pairs, and one fault among them must reach them all. */
    private static void subtypeFarAway() {
        StructuralTypes x = new StructuralTypes();
        for (int type = 0; type < 15; type++) {
            x.shape(type, RECORD);
        }
        for (int type = 0; type < 15; type++) {
            int next = type == 6 ? 0 : type == 14 ? 7 : type + 1;
            x.field(type, 1, next, 0);
        }
        due("6: all of both circles", x.subtypes(0), 0x7FFF);
        due("7: all of both circles", x.equivalent(6, 14), true);
        due("9: all of both circles", x.kinds(), 2);
        x.field(3, 1, 4, 1);
        for (int s = 0; s < 7; s++) {
            for (int t = 7; t < 15; t++) {
                due("6: one fault from far " + s + " " + t, x.subtype(s, t), false);
                due("6: no fault on the way back " + t + " " + s, x.subtype(t, s), true);
            }
        }
        chainOf(BOOL, false);
        chainOf(INT, true);
    }

    /** Two chains of eight, with the links on the argument's side, end in INT and in another shape. */
    private static void chainOf(int end, boolean want) {
        for (int way = 0; way < 2; way++) {
            StructuralTypes x = new StructuralTypes();
            for (int i = 0; i < 7; i++) {
                int here = way == 0 ? i : 7 - i;
                int next = way == 0 ? i + 1 : 6 - i;
                x.fun(here, next, here);
                x.fun(here + 8, next + 8, here + 8);
            }
            x.shape(way == 0 ? 15 : 8, end);
            int first = way == 0 ? 0 : 7;
            due("6: chain", x.subtype(first, first + 8), want);
            due("6: chain back", x.subtype(first + 8, first), want);
        }
    }

    private static void subtypeWrongInputs() {
        StructuralTypes x = oneOfEach();
        for (int bad : NO_TYPES) {
            due("6: bad s below ANY", x.subtype(bad, 2), false);
            due("6: bad t above NEVER", x.subtype(3, bad), false);
            due("6: bad s", x.subtype(bad, 0), false);
            due("6: bad t", x.subtype(0, bad), false);
            due("6: both bad", x.subtype(bad, bad), false);
        }
    }

    // Promise 7

    private static void equivalent() {
        StructuralTypes x = oneOfEach();
        for (int s = 0; s < 6; s++) {
            for (int t = 0; t < 6; t++) {
                due("7: shapes " + s + " and " + t, x.equivalent(s, t), s == t);
            }
        }
        due("7: two INT", x.equivalent(0, 15), true);
        x.shape(6, RECORD);
        x.field(6, 0, 6, 0);
        due("7: below only", x.equivalent(6, 5), false);
        due("7: above only", x.equivalent(5, 6), false);
        x.shape(7, RECORD);
        x.field(7, 0, 6, 0);
        due("7: unrolled once", x.equivalent(6, 7), true);
        x.field(7, 0, 6, 1);
        due("7: optional is another", x.equivalent(6, 7), false);
        for (int bad : NO_TYPES) {
            due("7: bad s", x.equivalent(bad, 0), false);
            due("7: bad t", x.equivalent(0, bad), false);
            due("7: both bad", x.equivalent(bad, bad), false);
        }
    }

    // Promise 8

    private static void subtypes() {
        StructuralTypes x = oneOfEach();
        due("8: INT", x.subtypes(0), 0xFFC9);
        due("8: BOOL", x.subtypes(1), 0x000A);
        due("8: ANY", x.subtypes(2), 0xFFFF);
        due("8: NEVER", x.subtypes(3), 0x0008);
        due("8: FUN", x.subtypes(4), 0x0018);
        due("8: RECORD", x.subtypes(5), 0x0028);
        due("8: the last", x.subtypes(15), 0xFFC9);
        for (int bad : NO_TYPES) {
            due("8: bad type", x.subtypes(bad), BAD_TYPE);
        }
    }

    // Promise 9

    private static void kinds() {
        StructuralTypes x = oneOfEach();
        due("9: one of each", x.kinds(), 6);
        x.shape(15, BOOL);
        due("9: a second BOOL", x.kinds(), 6);
        x.fun(6, 15, 0);
        due("9: another FUN", x.kinds(), 7);
        StructuralTypes y = new StructuralTypes();
        for (int type = 0; type < 15; type++) {
            y.fun(type, type + 1, type + 1);
        }
        due("9: sixteen kinds", y.kinds(), 16);
        y.fun(15, 0, 0);
        due("9: one great circle", y.kinds(), 1);
        y.shape(0, BOOL);
        due("9: sixteen again", y.kinds(), 16);
    }

    // Promise 10

    private static void unrelated() {
        StructuralTypes x = new StructuralTypes();
        x.shape(15, BOOL);
        due("10: one apart at the end", x.unrelated(), 15);
        x.shape(0, BOOL);
        due("10: two apart", x.unrelated(), 28);
        x.shape(0, ANY);
        due("10: ANY is related to all", x.unrelated(), 14);
        x.shape(15, NEVER);
        due("10: NEVER is related to all", x.unrelated(), 0);
        for (int type = 0; type < 16; type++) {
            x.shape(type, RECORD);
        }
        x.field(0, 0, 0, 0);
        due("10: below counts as related", x.unrelated(), 0);
        x.field(15, 1, 0, 0);
        due("10: different labels", x.unrelated(), 1);
        StructuralTypes y = new StructuralTypes();
        for (int type = 0; type < 15; type++) {
            y.fun(type, type + 1, type + 1);
        }
        due("10: all apart", y.unrelated(), 120);
    }

    // Promise 11

    private static void shapeOf() {
        StructuralTypes x = oneOfEach();
        int[] shapes = {INT, BOOL, ANY, NEVER, FUN, RECORD};
        for (int type = 0; type < 6; type++) {
            due("11: shape of " + type, x.shapeOf(type), shapes[type]);
        }
        x.fun(15, 15, 15);
        due("11: the last type", x.shapeOf(15), FUN);
        for (int bad : NO_TYPES) {
            due("11: bad type", x.shapeOf(bad), BAD_TYPE);
        }
    }

    // Promise 12

    private static void orderOfFaults() {
        StructuralTypes x = oneOfEach();
        for (int bad : NO_TYPES) {
            for (int shape : NO_SHAPES) {
                due("12: shape, both wrong", x.shape(bad, shape), BAD_TYPE);
            }
            for (int label : NO_LABELS) {
                due("12: field, type and label", x.field(bad, label, 0, 0), BAD_TYPE);
                due("12: field, of and label", x.field(5, label, bad, 0), BAD_TYPE);
                due("12: field, all three", x.field(0, label, bad, 0), BAD_TYPE);
                due("12: dropField, type and label", x.dropField(bad, label), BAD_TYPE);
            }
            due("12: field, of and no record", x.field(0, 0, bad, 0), BAD_TYPE);
        }
        for (int label : NO_LABELS) {
            for (int type = 0; type < 5; type++) {
                due("12: field, label and no record", x.field(type, label, 0, 0), BAD_LABEL);
                due("12: dropField, label and no record", x.dropField(type, label), BAD_LABEL);
            }
        }
    }

    // Terms: the questions change nothing

    private static void questionsChangeNothing() {
        StructuralTypes x = oneOfEach();
        x.field(5, 1, 5, 1);
        String before = picture(x);
        for (int i = -1; i < 17; i++) {
            x.subtype(i, 5);
            x.equivalent(5, i);
            x.shapeOf(i);
        }
        due("terms: questions change nothing", picture(x).equals(before), true);
        due("terms: the field stays", x.dropField(5, 1), 1);
    }

    private static void objectsAreApart() {
        StructuralTypes x = new StructuralTypes();
        StructuralTypes y = new StructuralTypes();
        x.shape(0, BOOL);
        due("1: the other object", y.shapeOf(0), INT);
        due("1: the other object", y.kinds(), 1);
        due("1: this object", x.kinds(), 2);
    }

    /** The document speaks of 512 calls, so the last of them must answer as the first does. */
    private static void theWholeLife() {
        StructuralTypes x = new StructuralTypes();
        for (int call = 0; call < 511; call++) {
            int type = call % 16;
            due("life: shape", x.shape(type, call / 16 % 2 == 0 ? BOOL : INT), call < 16 ? INT : call / 16 % 2 == 0 ? INT : BOOL);
        }
        due("life: the 512th call", x.subtypes(15), 0x8000);
    }
}
