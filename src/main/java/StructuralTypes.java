/** Structural types that may refer to themselves. */
public final class StructuralTypes {
    public static final int BAD_TYPE = -1;
    public static final int BAD_LABEL = -2;
    public static final int NO_RECORD = -3;
    public static final int BAD_SHAPE = -4;
    public static final int INT = 0;
    public static final int BOOL = 1;
    public static final int ANY = 2;
    public static final int NEVER = 3;
    public static final int FUN = 4;
    public static final int RECORD = 5;

    private static final int TYPES = 16;
    private static final int LABELS = 4;
    private static final int SLOTS = 64;
    private static final int PAIRS = 256;

    private final int[] shapes = new int[TYPES];

    // Read only while the type's shape is FUN; always hold types, so they are safe as indices.
    private final int[] arguments = new int[TYPES];
    private final int[] results = new int[TYPES];

    // One slot per type and label. The other two are read only where a field is present.
    private final boolean[] present = new boolean[SLOTS];
    private final boolean[] optional = new boolean[SLOTS];
    private final int[] fieldTypes = new int[SLOTS];

    // Worked out anew by each call that reads it, so it is no state that could grow stale.
    private final boolean[] below = new boolean[PAIRS];

    public StructuralTypes() {
        for (int type = 0; type < TYPES; type++) {
            shapes[type] = INT;
        }
    }

    public int shape(int type, int shape) {
        if (!isType(type)) {
            return BAD_TYPE;
        }
        if (shape < INT || shape > RECORD || shape == FUN) {
            return BAD_SHAPE;
        }
        return reshape(type, shape);
    }

    public int fun(int type, int argument, int result) {
        if (!isType(type) || !isType(argument) || !isType(result)) {
            return BAD_TYPE;
        }
        arguments[type] = argument;
        results[type] = result;
        return reshape(type, FUN);
    }

    public int field(int type, int label, int of, int how) {
        if (!isType(of)) {
            return BAD_TYPE;
        }
        int fault = fieldFault(type, label);
        if (fault != 0) {
            return fault;
        }
        int slot = type * LABELS + label;
        int had = present[slot] ? 1 : 0;
        present[slot] = true;
        optional[slot] = how != 0;
        fieldTypes[slot] = of;
        return had;
    }

    public int dropField(int type, int label) {
        int fault = fieldFault(type, label);
        if (fault != 0) {
            return fault;
        }
        int slot = type * LABELS + label;
        int had = present[slot] ? 1 : 0;
        present[slot] = false;
        return had;
    }

    public boolean subtype(int s, int t) {
        if (!isType(s) || !isType(t)) {
            return false;
        }
        settle();
        return isBelow(s, t);
    }

    public boolean equivalent(int s, int t) {
        if (!isType(s) || !isType(t)) {
            return false;
        }
        settle();
        return isBelow(s, t) && isBelow(t, s);
    }

    public int subtypes(int t) {
        if (!isType(t)) {
            return BAD_TYPE;
        }
        settle();
        int mask = 0;
        for (int s = 0; s < TYPES; s++) {
            if (isBelow(s, t)) {
                mask |= 1 << s;
            }
        }
        return mask;
    }

    public int kinds() {
        settle();
        int count = 0;
        for (int type = 0; type < TYPES; type++) {
            if (isFirstOfItsKind(type)) {
                count++;
            }
        }
        return count;
    }

    public int unrelated() {
        settle();
        int count = 0;
        for (int t = 0; t < TYPES; t++) {
            for (int s = 0; s < t; s++) {
                if (!isBelow(s, t) && !isBelow(t, s)) {
                    count++;
                }
            }
        }
        return count;
    }

    public int shapeOf(int type) {
        return isType(type) ? shapes[type] : BAD_TYPE;
    }

    private boolean isType(int type) {
        return type >= 0 && type < TYPES;
    }

    /** The first fault in the document's order, or 0. */
    private int fieldFault(int type, int label) {
        if (!isType(type)) {
            return BAD_TYPE;
        }
        if (label < 0 || label >= LABELS) {
            return BAD_LABEL;
        }
        return shapes[type] == RECORD ? 0 : NO_RECORD;
    }

    /** Drops all fields, since a type that becomes a RECORD, even again, starts without any. */
    private int reshape(int type, int shape) {
        int old = shapes[type];
        shapes[type] = shape;
        for (int label = 0; label < LABELS; label++) {
            present[type * LABELS + label] = false;
        }
        return old;
    }

    /**
     * The largest relation is reached from above: all pairs are taken in at first, and those for
     * which no rule holds are struck out until none is left to strike.
     */
    private void settle() {
        for (int pair = 0; pair < PAIRS; pair++) {
            below[pair] = true;
        }
        boolean struck = true;
        // Each round but the last strikes a pair, so PAIRS + 1 rounds are always enough.
        for (int round = 0; struck && round <= PAIRS; round++) {
            struck = false;
            for (int pair = 0; pair < PAIRS; pair++) {
                if (below[pair] && !ruleHolds(pair / TYPES, pair % TYPES)) {
                    below[pair] = false;
                    struck = true;
                }
            }
        }
    }

    private boolean isBelow(int s, int t) {
        return below[s * TYPES + t];
    }

    private boolean ruleHolds(int s, int t) {
        if (shapes[t] == ANY || shapes[s] == NEVER) {
            return true;
        }
        if (shapes[s] != shapes[t]) {
            return false;
        }
        if (shapes[s] == FUN) {
            return isBelow(arguments[t], arguments[s]) && isBelow(results[s], results[t]);
        }
        return shapes[s] != RECORD || recordRuleHolds(s, t);
    }

    private boolean recordRuleHolds(int s, int t) {
        for (int label = 0; label < LABELS; label++) {
            int ofS = s * LABELS + label;
            int ofT = t * LABELS + label;
            if (!present[ofT]) {
                continue;
            }
            // A missing field is not below an optional one: the document asks that both have it.
            if (!present[ofS] || (optional[ofS] && !optional[ofT])) {
                return false;
            }
            if (!isBelow(fieldTypes[ofS], fieldTypes[ofT])) {
                return false;
            }
        }
        return true;
    }

    /** Equivalence is transitive, so as many kinds exist as types with no equivalent before them. */
    private boolean isFirstOfItsKind(int type) {
        for (int earlier = 0; earlier < type; earlier++) {
            if (isBelow(earlier, type) && isBelow(type, earlier)) {
                return false;
            }
        }
        return true;
    }
}
