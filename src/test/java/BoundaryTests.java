import java.util.ArrayList;
import java.util.List;
import java.util.function.Consumer;
import java.util.function.Function;

/**
 * One test for each sentence of the document that names a boundary case, in the document's order.
 * Each bears its sentence, so that a failure says which words are broken.
 */
public final class BoundaryTests {
    private static final int INT = StructuralTypes.INT;
    private static final int BOOL = StructuralTypes.BOOL;
    private static final int ANY = StructuralTypes.ANY;
    private static final int NEVER = StructuralTypes.NEVER;
    private static final int FUN = StructuralTypes.FUN;
    private static final int RECORD = StructuralTypes.RECORD;
    private static final int BAD_TYPE = StructuralTypes.BAD_TYPE;
    private static final int BAD_LABEL = StructuralTypes.BAD_LABEL;
    private static final int NO_RECORD = StructuralTypes.NO_RECORD;
    private static final int BAD_SHAPE = StructuralTypes.BAD_SHAPE;

    private static final int LEAST = Integer.MIN_VALUE;
    private static final int GREATEST = Integer.MAX_VALUE;

    // Beside the nearest and the farthest, numbers that would fall back into the range if they were
    // cut to a byte or a short, masked, or multiplied to an index without being looked at before.
    private static final int[] NO_TYPES = {
        -1, 16, LEAST, GREATEST, LEAST + 15, -16, 32, 256, 65536 + 6, 1 << 28, 1 << 30};
    private static final int[] NO_LABELS = {
        -1, 4, LEAST, GREATEST, LEAST + 3, -4, 8, 256, 65536 + 1, 1 << 28, 1 << 30};
    private static final int[] NO_SHAPES = {
        -1, 6, LEAST, GREATEST, LEAST + 5, -5, 7, 8, 256, 65536 + 5, 1 << 30};

    private static final int[] PLAIN_SHAPES = {INT, BOOL, ANY, NEVER, RECORD};

    private static int sentences = 0;
    private static int wrong = 0;
    private static int wrongBefore = 0;
    private static String current = "";

    /** Only the first few for each sentence are printed, so that none is lost among the others. */
    private static void complain(String what) {
        if (wrong++ < wrongBefore + 10) {
            System.out.println("\"" + current + "\": " + what);
        }
    }

    /** One object and its calls, which it counts: past the 512th nothing is promised. */
    private static final class Run {
        private final StructuralTypes x = new StructuralTypes();
        private int calls = 0;
        private String call = "";
        private int answer = 0;

        private Run made(String text, int got) {
            calls++;
            call = text;
            answer = got;
            if (calls > 512) {
                complain("the test makes too many calls, with " + text);
            }
            return this;
        }

        void answers(int want) {
            if (answer != want) {
                complain("call " + calls + ", " + call + ", answered " + answer + ", due is " + want);
            }
        }

        void answers(boolean want) {
            answers(want ? 1 : 0);
        }

        Run shape(int type, int shape) {
            return made("shape(" + type + ", " + shape + ")", x.shape(type, shape));
        }

        Run fun(int type, int argument, int result) {
            return made("fun(" + type + ", " + argument + ", " + result + ")", x.fun(type, argument, result));
        }

        Run field(int type, int label, int of, int how) {
            String text = "field(" + type + ", " + label + ", " + of + ", " + how + ")";
            return made(text, x.field(type, label, of, how));
        }

        Run dropField(int type, int label) {
            return made("dropField(" + type + ", " + label + ")", x.dropField(type, label));
        }

        Run subtype(int s, int t) {
            return made("subtype(" + s + ", " + t + ")", x.subtype(s, t) ? 1 : 0);
        }

        Run equivalent(int s, int t) {
            return made("equivalent(" + s + ", " + t + ")", x.equivalent(s, t) ? 1 : 0);
        }

        Run subtypes(int t) {
            return made("subtypes(" + t + ")", x.subtypes(t));
        }

        Run kinds() {
            return made("kinds()", x.kinds());
        }

        Run unrelated() {
            return made("unrelated()", x.unrelated());
        }

        Run shapeOf(int type) {
            return made("shapeOf(" + type + ")", x.shapeOf(type));
        }
    }

    private static void sentence(String words, Runnable test) {
        sentences++;
        wrongBefore = wrong;
        current = words;
        try {
            test.run();
        } catch (RuntimeException thrown) {
            complain("a call threw " + thrown);
        }
    }

    public static void main(String[] args) {
        whatItIs();
        terms();
        rules();
        newObject();
        promisesOfShape();
        promisesOfFun();
        promisesOfField();
        promisesOfDropField();
        promisesOfQuestions();
        orderAndLimits();
        System.out.println(sentences + " sentences, " + wrong + " answers that are not as due");
        if (wrong != 0) {
            System.exit(1);
        }
    }

    private static void whatItIs() {
        sentence("An object is used for at most 512 calls after it has been made", BoundaryTests::wholeLife);
    }

    private static void terms() {
        sentence("There are sixteen TYPES (0 to 15), each with a SHAPE", BoundaryTests::sixteenTypes);
        sentence("for each of four LABELS (0 to 3) a type or no such field", BoundaryTests::fourLabels);
        sentence("a field may be OPTIONAL", BoundaryTests::optionalFields);
        sentence("Shapes may name any types, also their own.", BoundaryTests::anyTypesAlsoTheirOwn);
    }

    private static void rules() {
        sentence("t is ANY, or s is NEVER", BoundaryTests::anyAndNever);
        sentence("both are INT, or both are BOOL", BoundaryTests::bothIntOrBothBool);
        sentence("t's argument type is a subtype of s's argument type, "
                + "and s's result type is a subtype of t's result type", BoundaryTests::functionRule);
        sentence("for each label: t has no such field", BoundaryTests::noSuchField);
        sentence("or both have it", BoundaryTests::bothHaveIt);
        sentence("s's field type is a subtype of t's", BoundaryTests::fieldTypeBelow);
        sentence("s's field is optional only if t's is", BoundaryTests::optionalOnlyIf);
        sentence("SUBTYPING is the largest relation between types", BoundaryTests::largest);
        sentence("comes, sooner or later, to a pair for which none holds", BoundaryTests::soonerOrLater);
        sentence("Two types are EQUIVALENT if each is a subtype of the other.", BoundaryTests::eachOfTheOther);
        sentence("The calls below change nothing that any call answers.", BoundaryTests::questionsChangeNothing);
        sentence("A type not in 0 to 15: false, or BAD_TYPE.", BoundaryTests::questionsOnNoType);
    }

    private static void newObject() {
        sentence("Every type is INT.", BoundaryTests::everyTypeIsInt);
    }

    private static void promisesOfShape() {
        sentence("The type gets the shape INT, BOOL, ANY, NEVER or RECORD", BoundaryTests::shapeIsGiven);
        sentence("RECORD (without fields)", BoundaryTests::recordWithoutFields);
        sentence("type not in 0 to 15: BAD_TYPE; shape", BoundaryTests::shapeOnNoType);
        sentence("shape not in 0 to 5", BoundaryTests::shapeOutside);
        sentence("or FUN: BAD_SHAPE", BoundaryTests::shapeFun);
        sentence("BAD_SHAPE; nothing changes then. Else answers the old shape.", BoundaryTests::shapeAnswersOld);
    }

    private static void promisesOfFun() {
        sentence("The type gets the shape FUN with this argument and result.", BoundaryTests::funIsGiven);
        sentence("One of the three not in 0 to 15: BAD_TYPE, nothing changes.", BoundaryTests::funOnNoType);
        sentence("nothing changes. Else answers the old shape.", BoundaryTests::funAnswersOld);
    }

    private static void promisesOfField() {
        sentence("A RECORD type gets a field, or another type for it.", BoundaryTests::fieldIsGiven);
        sentence("type or of not in 0 to 15: BAD_TYPE", BoundaryTests::fieldOnNoType);
        sentence("label not in 0 to 3: BAD_LABEL", BoundaryTests::fieldOnNoLabel);
        sentence("type is not a RECORD: NO_RECORD; nothing changes then.", BoundaryTests::fieldOnNoRecord);
        sentence("Else answers 1 if it had a field with this label, 0 if not.", BoundaryTests::fieldAnswersHad);
        sentence("'how' 0: the field is not optional; any other: it is.", BoundaryTests::howTellsOptional);
    }

    private static void promisesOfDropField() {
        sentence("A RECORD type loses a field.", BoundaryTests::fieldIsLost);
        sentence("loses a field. BAD_TYPE", BoundaryTests::dropOnNoType);
        sentence("BAD_TYPE; BAD_LABEL", BoundaryTests::dropOnNoLabel);
        sentence("BAD_LABEL; NO_RECORD; nothing changes then.", BoundaryTests::dropOnNoRecord);
        sentence("Else answers 1 if it had it, 0 if not.", BoundaryTests::dropAnswersHad);
    }

    private static void promisesOfQuestions() {
        sentence("Whether s is a subtype of t.", BoundaryTests::subtypeInsideAndOutside);
        sentence("Whether s and t are equivalent.", BoundaryTests::equivalentInsideAndOutside);
        sentence("The type's subtypes as a mask, bit s for type s", BoundaryTests::maskHasBitForEach);
        sentence("bit s for type s; BAD_TYPE.", BoundaryTests::subtypesOnNoType);
        sentence("types no two of which are equivalent, as many as possible", BoundaryTests::fromOneToSixteenKinds);
        sentence("How many pairs s < t have neither as a subtype of the other.", BoundaryTests::noneToAllPairs);
        sentence("The type's shape;", BoundaryTests::shapeOfEach);
        sentence("The type's shape; BAD_TYPE.", BoundaryTests::shapeOfNoType);
    }

    private static void orderAndLimits() {
        sentence("shape: BAD_TYPE is tested before BAD_SHAPE.", BoundaryTests::orderInShape);
        sentence("field, dropField: tested in the order BAD_TYPE, BAD_LABEL, NO_RECORD.", () -> {
            orderInField();
            orderInDropField();
        });
    }

    /**
     * Types of every shape, each with a second one equivalent to it, so that a change to any part of
     * any of them shows in what the questions answer.
     */
    private static Run world() {
        Run run = new Run();
        run.shape(1, BOOL);
        run.shape(2, ANY);
        run.shape(3, NEVER);
        for (int twin = 0; twin < 2; twin++) {
            run.fun(4 + twin, 0, 1);
            run.shape(6 + twin, RECORD);
            run.shape(8 + twin, RECORD);
            run.field(8 + twin, 0, 0, 0);
            run.field(8 + twin, 1, 1, 1);
            run.field(8 + twin, 2, 4 + twin, 0);
            run.field(8 + twin, 3, 8 + twin, 1);
            run.shape(10 + twin, RECORD);
            run.field(10 + twin, 0, 0, 0);
            run.fun(12 + twin, 13 - twin, 12 + twin);
            run.shape(14 + twin, RECORD);
            run.field(14 + twin, 3, 1, 0);
        }
        return run;
    }

    /** What a long row of calls answers from here on, the last of them made to bring up stray fields. */
    private static String aftermath(Run run) {
        StringBuilder all = new StringBuilder();
        for (int type = 0; type < 16; type++) {
            all.append(run.shapeOf(type).answer).append('/').append(run.subtypes(type).answer).append(' ');
        }
        all.append(run.kinds().answer).append(' ').append(run.unrelated().answer);
        for (int turn = 0; turn < 2; turn++) {
            for (int type = 0; type < 16; type++) {
                for (int label = 0; label < 4; label++) {
                    all.append(' ').append(run.dropField(type, label).answer);
                }
            }
            for (int type = 0; type < 16; type++) {
                all.append(' ').append(run.shape(type, RECORD).answer);
            }
        }
        return all.toString();
    }

    private static void changesNothing(Consumer<Run> calls) {
        Run run = world();
        calls.accept(run);
        String text = run.call;
        if (!aftermath(run).equals(aftermath(world()))) {
            complain(text + " changes what later calls answer");
        }
    }

    private static void refused(int fault, Consumer<Run> call) {
        changesNothing(run -> {
            call.accept(run);
            run.answers(fault);
        });
    }

    // What it is

    private static void wholeLife() {
        for (int filler = 0; filler < 4; filler++) {
            lastCall(filler, run -> run.shape(15, INT).answers(RECORD));
            lastCall(filler, run -> run.fun(15, 15, 0).answers(RECORD));
            lastCall(filler, run -> run.field(15, 3, 15, 1).answers(1));
            lastCall(filler, run -> run.dropField(15, 3).answers(1));
            lastCall(filler, run -> run.dropField(15, 2).answers(0));
            lastCall(filler, run -> run.subtype(15, 14).answers(true));
            lastCall(filler, run -> run.subtype(14, 15).answers(false));
            lastCall(filler, run -> run.equivalent(15, 15).answers(true));
            lastCall(filler, run -> run.subtypes(14).answers(0xC000));
            lastCall(filler, run -> run.kinds().answers(3));
            lastCall(filler, run -> run.unrelated().answers(28));
            lastCall(filler, run -> run.shapeOf(15).answers(RECORD));
            lastCall(filler, run -> run.shape(15, FUN).answers(BAD_SHAPE));
        }
    }

    /** 511 calls that leave 14 as an empty RECORD and 15 as one with label 3, and then the last. */
    private static void lastCall(int filler, Consumer<Run> last) {
        Run run = new Run();
        while (run.calls < 492) {
            switch (filler) {
                case 0 -> run.fun(run.calls % 16, 15, 14).answers(run.calls <= 16 ? INT : FUN);
                case 1 -> run.shape(15, RECORD).answers(run.calls == 1 ? INT : RECORD);
                case 2 -> run.field(run.calls % 16, 4, 0, 0).answers(BAD_LABEL);
                default -> run.unrelated().answers(0);
            }
        }
        for (int type = 0; type < 16; type++) {
            run.shape(type, INT);
        }
        run.shape(14, RECORD);
        run.shape(15, RECORD);
        run.field(15, 3, 15, 0);
        last.accept(run);
        if (run.calls != 512) {
            complain("the test makes " + run.calls + " calls");
        }
    }

    // Terms

    private static void sixteenTypes() {
        Run run = new Run();
        int[] six = {INT, BOOL, ANY, NEVER, FUN, RECORD};
        for (int turn = 0; turn < 6; turn++) {
            for (int type = 0; type < 16; type++) {
                int shape = six[(type + turn) % 6];
                if (shape == FUN) {
                    run.fun(type, 15, 0);
                } else {
                    run.shape(type, shape);
                }
            }
            for (int type = 0; type < 16; type++) {
                run.shapeOf(type).answers(six[(type + turn) % 6]);
            }
        }
        for (int outside : new int[] {-1, 16}) {
            run.shape(outside, INT).answers(BAD_TYPE);
            run.fun(outside, 0, 0).answers(BAD_TYPE);
            run.field(outside, 0, 0, 0).answers(BAD_TYPE);
            run.dropField(outside, 0).answers(BAD_TYPE);
            run.shapeOf(outside).answers(BAD_TYPE);
        }
    }

    /** Type t has just the labels that are bits of t, so all sets of labels are there at once. */
    private static void fourLabels() {
        Run run = new Run();
        for (int type = 0; type < 16; type++) {
            run.shape(type, RECORD);
        }
        for (int type = 0; type < 16; type++) {
            for (int label = 0; label < 4; label++) {
                if ((type >> label & 1) == 1) {
                    run.field(type, label, 0, 0).answers(0);
                }
            }
        }
        for (int t = 0; t < 16; t++) {
            int mask = 0;
            for (int s = 0; s < 16; s++) {
                mask |= (s & t) == t ? 1 << s : 0;
            }
            run.subtypes(t).answers(mask);
        }
        run.kinds().answers(16);
        for (int type = 0; type < 16; type++) {
            for (int label = 0; label < 4; label++) {
                run.field(type, label, 0, 0).answers(type >> label & 1);
            }
        }
        run.kinds().answers(1);
        for (int type = 0; type < 16; type++) {
            for (int label = 0; label < 4; label++) {
                run.dropField(type, label).answers(1);
            }
        }
        run.field(0, -1, 0, 0).answers(BAD_LABEL);
        run.field(15, 4, 0, 0).answers(BAD_LABEL);
    }

    /** All types have four fields of ANY; those of type t are optional where t has a bit. */
    private static void optionalFields() {
        Run run = new Run();
        run.shape(15, ANY);
        for (int type = 0; type < 15; type++) {
            run.shape(type, RECORD);
            for (int label = 0; label < 4; label++) {
                run.field(type, label, 15, type >> label & 1);
            }
        }
        for (int t = 0; t < 15; t++) {
            int mask = 0;
            for (int s = 0; s < 15; s++) {
                mask |= (s & t) == s ? 1 << s : 0;
            }
            run.subtypes(t).answers(mask);
        }
        run.kinds().answers(16);
        run.dropField(7, 2).answers(1);
        run.subtype(7, 14).answers(false);
    }

    private static void anyTypesAlsoTheirOwn() {
        for (int type = 0; type < 16; type++) {
            Run run = new Run();
            int other = (type + 5) % 16;
            run.fun(type, type, type).answers(INT);
            run.fun(other, type, type).answers(INT);
            run.equivalent(type, other).answers(true);
            run.shape(type, RECORD).answers(FUN);
            run.shape(other, RECORD).answers(FUN);
            for (int label = 0; label < 4; label++) {
                run.field(type, label, type, 0).answers(0);
                run.field(other, label, type, 0).answers(0);
            }
            run.equivalent(type, other).answers(true);
            run.kinds().answers(2);
        }
        namesEachType();
    }

    /** Shapes that name the one BOOL among INT types differ from those that name another type. */
    private static void namesEachType() {
        for (int named = 0; named < 16; named++) {
            Run run = new Run();
            int plain = (named + 1) % 16;
            run.shape(named, BOOL);
            run.fun((named + 2) % 16, plain, plain);
            run.fun((named + 3) % 16, plain, named);
            run.fun((named + 4) % 16, named, plain);
            run.fun((named + 5) % 16, named, named);
            for (int label = 0; label < 4; label++) {
                run.shape((named + 6 + label) % 16, RECORD);
                run.field((named + 6 + label) % 16, label, plain, 0);
                run.shape((named + 10 + label) % 16, RECORD);
                run.field((named + 10 + label) % 16, label, named, 0);
            }
            run.kinds().answers(14);
            run.shape(named, INT);
            run.kinds().answers(6);
        }
    }

    private static void anyAndNever() {
        Run run = world();
        run.shape(6, ANY);
        run.shape(7, NEVER);
        for (int other = 0; other < 16; other++) {
            boolean any = other == 2 || other == 6;
            boolean never = other == 3 || other == 7;
            run.subtype(other, 2).answers(true);
            run.subtype(other, 6).answers(true);
            run.subtype(3, other).answers(true);
            run.subtype(7, other).answers(true);
            run.subtype(2, other).answers(any);
            run.subtype(6, other).answers(any);
            run.subtype(other, 3).answers(never);
            run.subtype(other, 7).answers(never);
        }
    }

    private static void bothIntOrBothBool() {
        Run run = new Run();
        for (int type = 0; type < 16; type++) {
            run.shape(type, type % 2 == 0 ? INT : BOOL);
        }
        for (int s = 0; s < 16; s++) {
            for (int t = 0; t < 16; t++) {
                run.subtype(s, t).answers(s % 2 == t % 2);
            }
        }
        Run mixed = world();
        for (int other = 2; other < 16; other++) {
            for (int plain = 0; plain < 2; plain++) {
                mixed.subtype(plain, other).answers(other == 2);
                mixed.subtype(other, plain).answers(other == 3);
            }
        }
    }

    /** Types 0 to 2 lie each below the next; type 3 + 3a + r is the function from a to r. */
    private static void functionRule() {
        Run run = new Run();
        run.shape(0, NEVER);
        run.shape(2, ANY);
        for (int f = 0; f < 9; f++) {
            run.fun(3 + f, f / 3, f % 3);
        }
        for (int s = 0; s < 9; s++) {
            for (int t = 0; t < 9; t++) {
                boolean want = t / 3 <= s / 3 && s % 3 <= t % 3;
                run.subtype(3 + s, 3 + t).answers(want);
            }
        }
        run.shape(12, RECORD);
        for (int f = 0; f < 9; f++) {
            run.subtype(3 + f, 1).answers(false);
            run.subtype(1, 3 + f).answers(false);
            run.subtype(3 + f, 12).answers(false);
            run.subtype(12, 3 + f).answers(false);
        }
    }

    /** Types 14 and 15 as records with the same needed INT field at each label but this one. */
    private static Run recordsAlikeBut(int label) {
        Run run = new Run();
        run.shape(1, BOOL);
        run.shape(2, ANY);
        run.shape(3, NEVER);
        run.shape(14, RECORD);
        run.shape(15, RECORD);
        for (int other = 0; other < 4; other++) {
            if (other != label) {
                run.field(14, other, 0, 0);
                run.field(15, other, 0, 0);
            }
        }
        return run;
    }

    private static void noSuchField() {
        for (int label = 0; label < 4; label++) {
            Run run = recordsAlikeBut(label);
            run.subtype(14, 15).answers(true);
            for (int of = 0; of < 16; of++) {
                run.field(14, label, of, 0);
                run.subtype(14, 15).answers(true);
                run.field(14, label, of, 1);
                run.subtype(14, 15).answers(true);
            }
            run.field(15, (label + 1) % 4, 1, 0);
            run.subtype(14, 15).answers(false);
            run.field(15, (label + 1) % 4, 2, 0);
            run.subtype(14, 15).answers(true);
            run.shape(15, RECORD);
            run.subtype(14, 15).answers(true);
            run.shape(14, RECORD);
            run.subtype(14, 15).answers(true);
        }
    }

    private static void bothHaveIt() {
        for (int label = 0; label < 4; label++) {
            Run run = recordsAlikeBut(label);
            for (int how = 0; how < 2; how++) {
                for (int of = 0; of < 16; of++) {
                    run.field(15, label, of, how);
                    run.subtype(14, 15).answers(false);
                }
            }
            run.shape(14, RECORD);
            run.subtype(14, 15).answers(false);
        }
    }

    private static void fieldTypeBelow() {
        for (int label = 0; label < 4; label++) {
            for (int how = 0; how < 2; how++) {
                Run run = recordsAlikeBut(label);
                for (int ofS = 0; ofS < 4; ofS++) {
                    for (int ofT = 0; ofT < 4; ofT++) {
                        run.field(14, label, ofS, how);
                        run.field(15, label, ofT, how);
                        run.subtype(14, 15).answers(ofS == ofT || ofT == 2 || ofS == 3);
                    }
                }
            }
        }
    }

    private static void optionalOnlyIf() {
        for (int label = 0; label < 4; label++) {
            Run run = recordsAlikeBut(label);
            for (int of = 0; of < 4; of++) {
                for (int hows = 0; hows < 4; hows++) {
                    run.field(14, label, of, hows & 1);
                    run.field(15, label, of, hows >> 1);
                    run.subtype(14, 15).answers(hows != 1);
                }
            }
        }
    }

    /** Nothing but the parts' own pairs speaks for these, so a smaller relation would lack them. */
    private static void largest() {
        for (int way = 0; way < 3; way++) {
            Run run = new Run();
            for (int type = 0; type < 16; type++) {
                int next = (type + 1) % 16;
                switch (way) {
                    case 0 -> run.fun(type, next, next);
                    case 1 -> run.fun(type, type, type);
                    default -> {
                        run.shape(type, RECORD);
                        run.field(type, 3, next, 0);
                    }
                }
            }
            for (int t = 0; t < 16; t++) {
                run.subtypes(t).answers(0xFFFF);
            }
            run.kinds().answers(1);
            run.unrelated().answers(0);
        }
    }

    /**
     * A circle of seven against one of nine: of the 63 pairs that lead round, one alone has no rule,
     * so that from the pair after it the way there is 62 steps long.
     */
    private static void soonerOrLater() {
        for (int step : new int[] {1, -1}) {
            for (int odd = 0; odd < 63; odd += 31) {
                Run run = new Run();
                for (int type = 0; type < 16; type++) {
                    run.shape(type, RECORD);
                }
                for (int i = 0; i < 7; i++) {
                    run.field(i, 0, (i + step + 7) % 7, i == odd % 7 ? 1 : 0);
                }
                for (int i = 0; i < 9; i++) {
                    run.field(7 + i, 0, 7 + (i + step + 9) % 9, i == odd % 9 ? 0 : 1);
                }
                for (int s = 0; s < 7; s++) {
                    run.subtypes(7 + s).answers(1 << 7 + s);
                    for (int t = 7; t < 16; t++) {
                        run.subtype(s, t).answers(false);
                    }
                }
                run.field(odd % 7, 0, (odd % 7 + step + 7) % 7, 0);
                run.subtype(0, 15).answers(true);
                run.subtype(6, 7).answers(true);
            }
        }
        longestChain();
    }

    /** A chain of sixteen whose last link alone tells its types apart. */
    private static void longestChain() {
        Run run = new Run();
        for (int type = 0; type < 15; type++) {
            run.fun(type, type + 1, type + 1);
        }
        run.fun(15, 15, 15);
        run.kinds().answers(1);
        for (int end : PLAIN_SHAPES) {
            run.shape(15, end);
            run.kinds().answers(16);
            run.subtype(0, 1).answers(false);
            run.subtype(1, 0).answers(false);
            run.subtype(0, 0).answers(true);
        }
    }

    private static void eachOfTheOther() {
        Run run = new Run();
        run.shape(1, NEVER);
        run.shape(2, ANY);
        run.shape(3, RECORD);
        run.shape(4, RECORD);
        run.field(4, 0, 0, 0);
        run.shape(5, RECORD);
        run.field(5, 0, 0, 0);
        run.fun(6, 2, 0);
        run.fun(7, 0, 0);
        int[][] oneWay = {{1, 0}, {0, 2}, {1, 2}, {4, 3}, {6, 7}};
        for (int[] pair : oneWay) {
            run.subtype(pair[0], pair[1]).answers(true);
            run.subtype(pair[1], pair[0]).answers(false);
            run.equivalent(pair[0], pair[1]).answers(false);
            run.equivalent(pair[1], pair[0]).answers(false);
        }
        int[][] noWay = {{0, 3}, {0, 6}, {3, 6}, {4, 7}};
        for (int[] pair : noWay) {
            run.equivalent(pair[0], pair[1]).answers(false);
            run.equivalent(pair[1], pair[0]).answers(false);
        }
        int[][] bothWays = {{4, 5}, {0, 15}, {1, 1}, {2, 2}, {7, 7}};
        for (int[] pair : bothWays) {
            run.equivalent(pair[0], pair[1]).answers(true);
            run.equivalent(pair[1], pair[0]).answers(true);
        }
    }

    private static void questionsChangeNothing() {
        List<Function<Run, Run>> questions = new ArrayList<>();
        questions.add(Run::kinds);
        questions.add(Run::unrelated);
        for (int one = -1; one <= 16; one++) {
            int t = one;
            questions.add(run -> run.subtypes(t));
            questions.add(run -> run.shapeOf(t));
        }
        questions.forEach(later -> {
            int alone = later.apply(world()).answer;
            questions.forEach(question -> asksThen(question, later, alone));
            for (int one = -1; one <= 16; one++) {
                for (int other = -1; other <= 16; other++) {
                    int s = one;
                    int t = other;
                    asksThen(run -> run.subtype(s, t), later, alone);
                    asksThen(run -> run.equivalent(s, t), later, alone);
                }
            }
        });
        questions.forEach(question -> changesNothing(question::apply));
    }

    /** The later question is the second of its run only: else both runs might be spoilt alike. */
    private static void asksThen(Function<Run, Run> question, Function<Run, Run> later, int alone) {
        Run run = question.apply(world());
        String asked = run.call;
        later.apply(run);
        if (run.answer != alone) {
            complain(asked + " changes what " + run.call + " answers");
        }
    }

    private static void questionsOnNoType() {
        for (int none : NO_TYPES) {
            refused(0, run -> run.subtype(none, 2));
            refused(0, run -> run.subtype(3, none));
            refused(0, run -> run.subtype(none, none));
            refused(0, run -> run.equivalent(none, 2));
            refused(0, run -> run.equivalent(3, none));
            refused(0, run -> run.equivalent(none, none));
            refused(BAD_TYPE, run -> run.subtypes(none));
            refused(BAD_TYPE, run -> run.shapeOf(none));
            Run alike = new Run();
            for (int type = 0; type < 16; type++) {
                alike.subtype(none, type).answers(false);
                alike.subtype(type, none).answers(false);
                alike.equivalent(none, type).answers(false);
                alike.equivalent(type, none).answers(false);
            }
        }
    }

    // Promise 1

    private static void everyTypeIsInt() {
        Run run = new Run();
        for (int type = 0; type < 16; type++) {
            run.shapeOf(type).answers(INT);
            run.subtypes(type).answers(0xFFFF);
            for (int label = 0; label < 4; label++) {
                run.dropField(type, label).answers(NO_RECORD);
                run.field(type, label, 0, 0).answers(NO_RECORD);
            }
            run.shape(type, BOOL).answers(INT);
            run.subtype(type, (type + 1) % 16).answers(false);
            run.shape(type, INT).answers(BOOL);
            new Run().fun(type, 0, 0).answers(INT);
        }
        new Run().kinds().answers(1);
        new Run().unrelated().answers(0);
        new Run().subtype(0, 15).answers(true);
        new Run().equivalent(15, 0).answers(true);
    }

    // Promise 2

    private static void shapeIsGiven() {
        for (int type = 0; type < 16; type++) {
            Run run = new Run();
            run.shape((type + 1) % 16, NEVER);
            run.fun((type + 15) % 16, 0, 15);
            for (int from = 0; from < 6; from++) {
                for (int to : PLAIN_SHAPES) {
                    if (from == FUN) {
                        run.fun(type, 0, 15);
                    } else {
                        run.shape(type, from);
                    }
                    run.shape(type, to);
                    run.shapeOf(type).answers(to);
                    run.shapeOf((type + 1) % 16).answers(NEVER);
                    run.shapeOf((type + 15) % 16).answers(FUN);
                }
            }
        }
    }

    private static void recordWithoutFields() {
        for (int type = 0; type < 16; type++) {
            for (int between : PLAIN_SHAPES) {
                Run run = new Run();
                fullRecord(run, type);
                fullRecord(run, (type + 1) % 16);
                fullRecord(run, (type + 15) % 16);
                run.shape(type, between);
                run.shape(type, RECORD);
                run.shape((type + 2) % 16, RECORD);
                run.equivalent(type, (type + 2) % 16).answers(true);
                for (int label = 0; label < 4; label++) {
                    run.dropField(type, label).answers(0);
                    run.dropField((type + 1) % 16, label).answers(1);
                    run.dropField((type + 15) % 16, label).answers(1);
                }
            }
            Run run = new Run();
            fullRecord(run, type);
            run.fun(type, type, type);
            run.shape(type, RECORD).answers(FUN);
            for (int label = 0; label < 4; label++) {
                run.field(type, label, 0, 0).answers(0);
            }
        }
    }

    private static void fullRecord(Run run, int type) {
        run.shape(type, RECORD);
        for (int label = 0; label < 4; label++) {
            run.field(type, label, label, label % 2);
        }
    }

    private static void shapeOnNoType() {
        for (int none : NO_TYPES) {
            for (int shape : PLAIN_SHAPES) {
                refused(BAD_TYPE, run -> run.shape(none, shape));
            }
        }
        new Run().shape(0, BOOL).answers(INT);
        new Run().shape(15, BOOL).answers(INT);
    }

    private static void shapeOutside() {
        for (int none : NO_SHAPES) {
            for (int each = 0; each < 16; each++) {
                int type = each;
                refused(BAD_SHAPE, run -> run.shape(type, none));
            }
        }
        new Run().shape(0, 0).answers(INT);
        new Run().shape(0, 5).answers(INT);
        new Run().shape(0, 3).answers(INT);
    }

    private static void shapeFun() {
        for (int each = 0; each < 16; each++) {
            int type = each;
            refused(BAD_SHAPE, run -> run.shape(type, FUN));
        }
    }

    private static void shapeAnswersOld() {
        for (int type = 0; type < 16; type++) {
            Run run = new Run();
            int old = INT;
            for (int from = 0; from < 6; from++) {
                for (int to : PLAIN_SHAPES) {
                    if (from == FUN) {
                        run.fun(type, type, type).answers(old);
                    } else {
                        run.shape(type, from).answers(old);
                    }
                    run.shape(type, 6).answers(BAD_SHAPE);
                    run.shape(type, to).answers(from);
                    old = to;
                }
            }
        }
    }

    // Promise 3

    private static void funIsGiven() {
        for (int type = 0; type < 16; type++) {
            Run run = new Run();
            int any = (type + 1) % 16;
            int never = (type + 2) % 16;
            int twin = (type + 3) % 16;
            run.shape(any, ANY);
            run.shape(never, NEVER);
            run.fun(twin, any, never);
            run.fun(type, never, any);
            run.shapeOf(type).answers(FUN);
            run.subtype(twin, type).answers(true);
            run.subtype(type, twin).answers(false);
            run.fun(type, any, any);
            run.subtype(type, twin).answers(false);
            run.fun(type, never, never);
            run.subtype(type, twin).answers(false);
            run.fun(type, any, never);
            run.equivalent(type, twin).answers(true);
        }
        Run run = new Run();
        run.fun(0, 15, 15).answers(INT);
        run.fun(15, 0, 0).answers(INT);
        run.equivalent(0, 15).answers(true);
    }

    private static void funOnNoType() {
        for (int none : NO_TYPES) {
            refused(BAD_TYPE, run -> run.fun(none, 0, 1));
            refused(BAD_TYPE, run -> run.fun(none, none, none));
            refused(BAD_TYPE, run -> run.fun(none, none, 0));
            refused(BAD_TYPE, run -> run.fun(none, 0, none));
            for (int each = 0; each < 16; each++) {
                int type = each;
                refused(BAD_TYPE, run -> run.fun(type, none, 2));
                refused(BAD_TYPE, run -> run.fun(type, 2, none));
                refused(BAD_TYPE, run -> run.fun(type, none, none));
            }
        }
    }

    private static void funAnswersOld() {
        for (int type = 0; type < 16; type++) {
            Run run = new Run();
            run.fun(type, 0, 0).answers(INT);
            run.fun(type, 15, 15).answers(FUN);
            for (int from : PLAIN_SHAPES) {
                run.shape(type, from).answers(FUN);
                run.fun(type, 16, 0).answers(BAD_TYPE);
                run.fun(type, 0, 15).answers(from);
            }
        }
    }

    // Promise 4

    private static void fieldIsGiven() {
        for (int type = 0; type < 16; type++) {
            for (int label = 0; label < 4; label++) {
                Run run = new Run();
                int twin = (type + 7) % 16;
                int named = (type + 8) % 16;
                run.shape(type, RECORD);
                run.shape(twin, RECORD);
                run.shape(named, BOOL);
                run.field(type, label, named, 0).answers(0);
                run.subtype(twin, type).answers(false);
                run.subtype(type, twin).answers(true);
                run.field(twin, label, named, 0).answers(0);
                run.equivalent(type, twin).answers(true);
                run.field(type, label, type, 0).answers(1);
                run.equivalent(type, twin).answers(false);
                run.field(type, label, named, 0).answers(1);
                run.equivalent(type, twin).answers(true);
                for (int other = 0; other < 4; other++) {
                    run.dropField(type, other).answers(other == label);
                }
            }
        }
    }

    private static void fieldOnNoType() {
        for (int none : NO_TYPES) {
            for (int each = 0; each < 4; each++) {
                int label = each;
                refused(BAD_TYPE, run -> run.field(none, label, 0, 0));
                refused(BAD_TYPE, run -> run.field(none, label, none, 1));
                for (int one = 6; one < 16; one++) {
                    int type = one;
                    refused(BAD_TYPE, run -> run.field(type, label, none, 0));
                    refused(BAD_TYPE, run -> run.field(type, label, none, 1));
                }
            }
        }
        for (int of = 0; of < 16; of += 15) {
            for (int type = 0; type < 16; type += 15) {
                Run run = new Run();
                run.shape(type, RECORD);
                run.field(type, 0, of, 0).answers(0);
            }
        }
    }

    private static void fieldOnNoLabel() {
        for (int none : NO_LABELS) {
            for (int each = 6; each < 16; each++) {
                int type = each;
                if (type != 12 && type != 13) {
                    refused(BAD_LABEL, run -> run.field(type, none, 2, 0));
                    refused(BAD_LABEL, run -> run.field(type, none, 2, 1));
                }
            }
        }
        Run run = world();
        run.field(6, 0, 15, 0).answers(0);
        run.field(6, 3, 15, 0).answers(0);
    }

    private static void fieldOnNoRecord() {
        for (int each = 0; each < 16; each++) {
            int type = each;
            for (int one = 0; one < 4; one++) {
                int label = one;
                if (type < 6 || type == 12 || type == 13) {
                    refused(NO_RECORD, run -> run.field(type, label, 0, 0));
                    refused(NO_RECORD, run -> run.field(type, label, 15, 1));
                } else {
                    world().field(type, label, 0, 0).answers(hasInWorld(type, label));
                }
            }
        }
    }

    private static boolean hasInWorld(int type, int label) {
        return type == 8 || type == 9
                || (label == 0 && (type == 10 || type == 11))
                || (label == 3 && (type == 14 || type == 15));
    }

    private static void fieldAnswersHad() {
        for (int type = 0; type < 16; type++) {
            Run run = new Run();
            run.shape(type, RECORD);
            for (int how = 0; how < 2; how++) {
                for (int label = 0; label < 4; label++) {
                    run.field(type, label, type, how).answers(0);
                    run.field(type, label, type, how).answers(1);
                    run.field(type, label, 15 - type, 1 - how).answers(1);
                    run.field(type, label, 16, how).answers(BAD_TYPE);
                    run.field(type, label, type, how).answers(1);
                    run.dropField(type, label).answers(1);
                    run.field(type, label, type, how).answers(0);
                }
                run.shape(type, RECORD).answers(RECORD);
            }
        }
    }

    private static void howTellsOptional() {
        int[] optional = {1, -1, 2, LEAST, GREATEST, 16, 256, 65536, 1 << 24, -256};
        for (int label = 0; label < 4; label++) {
            Run run = recordsAlikeBut(label);
            run.field(15, label, 0, 0);
            for (int how : optional) {
                run.field(14, label, 0, how);
                run.subtype(14, 15).answers(false);
                run.subtype(15, 14).answers(true);
                run.field(14, label, 0, 0).answers(1);
                run.equivalent(14, 15).answers(true);
                run.field(14, label, 0, how);
                run.dropField(14, label);
                run.field(14, label, 0, 0).answers(0);
                run.equivalent(14, 15).answers(true);
            }
            run.field(15, label, 0, LEAST);
            run.field(14, label, 0, 1);
            run.equivalent(14, 15).answers(true);
        }
    }

    // Promise 5

    private static void fieldIsLost() {
        for (int type = 0; type < 16; type++) {
            for (int label = 0; label < 4; label++) {
                Run run = new Run();
                int next = (type + 1) % 16;
                int empty = (type + 2) % 16;
                fullRecord(run, type);
                fullRecord(run, next);
                run.shape(empty, RECORD);
                run.dropField(type, label).answers(1);
                run.shapeOf(type).answers(RECORD);
                run.subtype(type, next).answers(false);
                run.subtype(next, type).answers(true);
                run.field(next, label, empty, 1);
                run.subtype(next, type).answers(true);
                for (int other = 0; other < 4; other++) {
                    run.dropField(type, other).answers(other != label);
                }
                run.equivalent(type, empty).answers(true);
            }
        }
    }

    private static void dropOnNoType() {
        for (int none : NO_TYPES) {
            for (int each = 0; each < 4; each++) {
                int label = each;
                refused(BAD_TYPE, run -> run.dropField(none, label));
            }
        }
        world().dropField(15, 3).answers(1);
        new Run().dropField(0, 0).answers(NO_RECORD);
    }

    private static void dropOnNoLabel() {
        for (int none : NO_LABELS) {
            for (int each = 6; each < 16; each++) {
                int type = each;
                if (type != 12 && type != 13) {
                    refused(BAD_LABEL, run -> run.dropField(type, none));
                }
            }
        }
        world().dropField(8, 0).answers(1);
        world().dropField(8, 3).answers(1);
    }

    private static void dropOnNoRecord() {
        for (int each = 0; each < 16; each++) {
            int type = each;
            for (int one = 0; one < 4; one++) {
                int label = one;
                if (type < 6 || type == 12 || type == 13) {
                    refused(NO_RECORD, run -> run.dropField(type, label));
                } else {
                    world().dropField(type, label).answers(hasInWorld(type, label));
                }
            }
        }
        recordNoMore();
    }

    private static void recordNoMore() {
        for (int shape : PLAIN_SHAPES) {
            Run run = new Run();
            fullRecord(run, 4);
            run.shape(4, shape);
            run.dropField(4, 0).answers(shape == RECORD ? 0 : NO_RECORD);
            run.field(4, 0, 0, 0).answers(shape == RECORD ? 0 : NO_RECORD);
        }
        Run run = new Run();
        fullRecord(run, 4);
        run.fun(4, 4, 4);
        run.dropField(4, 0).answers(NO_RECORD);
        run.field(4, 0, 0, 0).answers(NO_RECORD);
    }

    private static void dropAnswersHad() {
        for (int type = 0; type < 16; type++) {
            Run run = new Run();
            run.shape(type, RECORD);
            for (int how = 0; how < 2; how++) {
                for (int label = 0; label < 4; label++) {
                    run.dropField(type, label).answers(0);
                    run.field(type, label, type, how);
                    run.dropField(type, 4).answers(BAD_LABEL);
                    run.dropField(type, label).answers(1);
                    run.dropField(type, label).answers(0);
                }
            }
        }
    }

    // Promises 6 to 11

    private static void subtypeInsideAndOutside() {
        Run run = new Run();
        for (int edge = 0; edge < 16; edge += 15) {
            for (int type = 0; type < 16; type++) {
                run.subtype(edge, type).answers(true);
                run.subtype(type, edge).answers(true);
            }
            for (int none : NO_TYPES) {
                run.subtype(edge, none).answers(false);
                run.subtype(none, edge).answers(false);
            }
        }
        run.shape(0, NEVER);
        run.shape(15, ANY);
        run.subtype(0, 15).answers(true);
        run.subtype(15, 0).answers(false);
        run.subtype(0, 16).answers(false);
        run.subtype(-1, 15).answers(false);
    }

    private static void equivalentInsideAndOutside() {
        Run run = new Run();
        for (int edge = 0; edge < 16; edge += 15) {
            for (int type = 0; type < 16; type++) {
                run.equivalent(edge, type).answers(true);
                run.equivalent(type, edge).answers(true);
            }
            for (int none : NO_TYPES) {
                run.equivalent(edge, none).answers(false);
                run.equivalent(none, edge).answers(false);
                run.equivalent(none, none).answers(false);
            }
        }
        run.shape(15, ANY);
        run.equivalent(0, 15).answers(false);
        run.equivalent(15, 0).answers(false);
        run.equivalent(15, 15).answers(true);
    }

    private static void maskHasBitForEach() {
        Run all = new Run();
        for (int type = 0; type < 16; type++) {
            all.subtypes(type).answers(0xFFFF);
            Run run = new Run();
            run.shape(type, BOOL);
            for (int t = 0; t < 16; t++) {
                run.subtypes(t).answers(t == type ? 1 << type : 0xFFFF - (1 << type));
            }
            run.shape(type, NEVER);
            run.subtypes(type).answers(1 << type);
            run.subtypes((type + 1) % 16).answers(0xFFFF);
            run.shape(type, ANY);
            run.subtypes(type).answers(0xFFFF);
            run.subtypes((type + 1) % 16).answers(0xFFFF - (1 << type));
        }
    }

    private static void subtypesOnNoType() {
        for (int none : NO_TYPES) {
            refused(BAD_TYPE, run -> run.subtypes(none));
        }
        new Run().subtypes(0).answers(0xFFFF);
        new Run().subtypes(15).answers(0xFFFF);
    }

    /** Each type in turn becomes of a kind of its own: a function from the one before it. */
    private static void fromOneToSixteenKinds() {
        Run run = new Run();
        run.kinds().answers(1);
        for (int type = 1; type < 16; type++) {
            run.fun(type, type - 1, type - 1);
            run.kinds().answers(type + 1);
        }
        run.fun(0, 15, 15);
        run.kinds().answers(1);
        Run back = new Run();
        for (int type = 14; type >= 0; type--) {
            back.fun(type, type + 1, type + 1);
            back.kinds().answers(16 - type);
        }
        for (int shape : PLAIN_SHAPES) {
            Run alike = new Run();
            for (int type = 0; type < 16; type++) {
                alike.shape(type, shape);
            }
            alike.kinds().answers(1);
        }
        Run related = new Run();
        related.shape(0, ANY);
        related.kinds().answers(2);
        related.shape(15, NEVER);
        related.kinds().answers(3);
    }

    private static void noneToAllPairs() {
        Run run = new Run();
        run.unrelated().answers(0);
        for (int type = 0; type < 16; type++) {
            run.shape(type, BOOL);
            run.unrelated().answers((type + 1) * (15 - type));
        }
        for (int type = 0; type < 15; type++) {
            run.fun(type, type + 1, type + 1);
        }
        run.unrelated().answers(120);
        run.shape(0, ANY);
        run.unrelated().answers(105);
        run.shape(0, NEVER);
        run.unrelated().answers(105);
        Run chain = new Run();
        for (int type = 0; type < 16; type++) {
            chain.shape(type, RECORD);
        }
        for (int label = 0; label < 4; label++) {
            chain.field(15, label, 0, 0);
            chain.unrelated().answers(0);
        }
        chain.field(0, 3, 0, 1);
        chain.unrelated().answers(0);
        chain.field(15, 3, 15, 1);
        chain.dropField(0, 3);
        chain.field(0, 0, 15, 1);
        chain.unrelated().answers(1);
    }

    private static void shapeOfEach() {
        int[] due = {INT, BOOL, ANY, NEVER, FUN, FUN, RECORD, RECORD, RECORD, RECORD, RECORD, RECORD,
            FUN, FUN, RECORD, RECORD};
        Run run = world();
        for (int type = 0; type < 16; type++) {
            run.shapeOf(type).answers(due[type]);
        }
    }

    private static void shapeOfNoType() {
        for (int none : NO_TYPES) {
            refused(BAD_TYPE, run -> run.shapeOf(none));
        }
        new Run().shapeOf(0).answers(INT);
        new Run().shapeOf(15).answers(INT);
    }

    // Promise 12

    private static void orderInShape() {
        for (int noType : NO_TYPES) {
            for (int noShape : NO_SHAPES) {
                refused(BAD_TYPE, run -> run.shape(noType, noShape));
            }
            refused(BAD_TYPE, run -> run.shape(noType, FUN));
        }
    }

    private static void orderInField() {
        for (int noLabel : NO_LABELS) {
            for (int noType : NO_TYPES) {
                refused(BAD_TYPE, run -> run.field(noType, noLabel, 0, 0));
                refused(BAD_TYPE, run -> run.field(noType, noLabel, noType, 0));
                refused(BAD_TYPE, run -> run.field(8, noLabel, noType, 0));
                refused(BAD_TYPE, run -> run.field(0, noLabel, noType, 0));
                refused(BAD_TYPE, run -> run.field(4, 0, noType, 1));
            }
            for (int type = 0; type < 6; type++) {
                int noRecord = type;
                refused(BAD_LABEL, run -> run.field(noRecord, noLabel, 0, 0));
            }
        }
    }

    private static void orderInDropField() {
        for (int noLabel : NO_LABELS) {
            for (int noType : NO_TYPES) {
                refused(BAD_TYPE, run -> run.dropField(noType, noLabel));
            }
            for (int type = 0; type < 6; type++) {
                int noRecord = type;
                refused(BAD_LABEL, run -> run.dropField(noRecord, noLabel));
            }
        }
    }
}
