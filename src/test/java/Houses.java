/** Houses to try calls in. */
final class Houses {
    private static final int NONE = Due.NONE;

    /** KINDS of FIELDS. */
    static final int TRUTHS = 0, BYTES = 1, CHARS = 2, SHORTS = 3, INTS = 4, LONGS = 5, FLOATS = 6, DOUBLES = 7;

    private Houses() {
    }

    /**
     * CLASSES 0, 1 (under 0) and FACE 2, the FACE of 1. MEMBERS 0 a FIELD of 0, 1 a METHOD of 1. CALLER 0 gets the
     * FIELD, the value of which was changed behind it.
     */
    static void small(Edits13 x) {
        x.type(false, NONE, 0);
        x.type(false, 0, 0);
        x.type(true, NONE, 0);
        x.face(1, 2);
        x.field(0, 0, INTS, 0, 5L);
        x.method(1, 1, NONE, NONE, 0, 7);
        x.get(0, 0);
        x.set(0, 6L);
        x.meet(0, 0);
    }

    /**
     * Twelve TYPES, of which 2, 3, 5 and 10 are FACES; 1 is under 0 and has the FACE 2; 0 and 11 have the FACE 3.
     * MEMBERS 0 and 1 FIELDS, 2 and 3 METHODS, 4 was dropped, 5 a FIELD. CALLERS 0 GET, 1 GET that keeps 44, 2 CALL,
     * 3 NEW. The value of the FIELD 0 was changed behind them.
     */
    static void roomy(Edits13 x) {
        for (int t = 0; t < 12; t++) {
            boolean face = t == 2 || t == 3 || t == 5 || t == 10;
            x.type(face, t == 1 ? 0 : NONE, 0);
        }
        x.face(1, 2);
        x.face(0, 3);
        x.face(11, 3);
        x.field(0, 0, INTS, 0, 5L);
        x.field(2, 1, BYTES, Due.STATIC | Due.FINAL, 300L);
        x.method(0, 2, NONE, NONE, 0, 7);
        x.method(1, 3, 0, 4, Due.STATIC, 8);
        x.field(4, 4, INTS, 0, 9L);
        x.field(4, 5, LONGS, 0, 10L);
        x.drop(4);
        x.get(0, 0);
        x.get(1, 1);
        x.call(0, 2, NONE, NONE);
        x.make(4);
        x.set(0, 6L);
        x.meet(0, 0);
    }

    /** Twelve TYPES, all FACES but 1. */
    static void faces(Edits13 x) {
        for (int t = 0; t < 12; t++) {
            x.type(t != 1, NONE, 0);
        }
    }

    /** Twelve TYPES (6 to 10 FACES), sixty MEMBERS of 0 to 5, of each NAME one, and 24 CALLERS. */
    static void full(Edits13 x, boolean fieldsFirst) {
        for (int t = 0; t < 12; t++) {
            x.type(t > 5 && t < 11, NONE, 0);
        }
        for (int m = 0; m < 60; m++) {
            if (m < 30 == fieldsFirst) {
                x.field(m % 6, m / 6, INTS, 0, m);
            } else {
                x.method(m % 6, m / 6, NONE, NONE, 0, m);
            }
        }
        for (int c = 0; c < 24; c++) {
            x.make(c % 6);
        }
    }

    static void fullOfFieldsFirst(Edits13 x) {
        full(x, true);
    }

    static void fullOfMethodsFirst(Edits13 x) {
        full(x, false);
    }

    /** The small house with 120 EDITS, the latest of which change nothing. */
    static void fullOfEdits(Edits13 x) {
        small(x);
        Due.fillEdits(x, 0);
    }
}
