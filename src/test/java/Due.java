/** Counts and prints the answers that are not as due. */
final class Due {
    static final int BAD = -1, NONE = -2, FULL = -3, RING = -4;
    static final int NO_SUCH = -11, MANY = -12, HOLLOW = -13;
    static final int BARRED = -31, BROKEN = -32, LOST = -33, CLOSED = -34, CHANGED = -35;
    static final int UNLIKE = -36, CAST = -37, EMPTY = -38, UNMADE = -39;
    static final int STATIC = 1, FINAL = 2, HIDDEN = 4, ABSTRACT = 8;

    private static int wrong = 0;
    private static int told = 0;

    private Due() {
    }

    static void same(String what, long got, long due) {
        told++;
        if (got != due) {
            wrong++;
            if (wrong <= 50) {
                System.out.println(what + " answered " + got + ", due is " + due);
            }
        }
    }

    /** A CLASS with nothing above it and no MARKS. */
    static int plainClass(Edits13 x) {
        return x.type(false, NONE, 0);
    }

    static int classUnder(Edits13 x, int above) {
        return x.type(false, above, 0);
    }

    static int plainFace(Edits13 x) {
        return x.type(true, NONE, 0);
    }

    static int plainMethod(Edits13 x, int type, int name, int marks, int v) {
        return x.method(type, name, NONE, NONE, marks, v);
    }

    /** Fills up the EDITS with such as change nothing that a test looks at. */
    static void fillEdits(Edits13 x, int type) {
        int m = x.told(type, 2);
        for (int left = 120 - x.count(3); left > 0; left--) {
            same("marks to fill up", x.marks(type, m), m);
        }
    }

    static void end() {
        System.out.println(wrong == 0 ? told + " answers are as due" : wrong + " of " + told + " answers are not as due");
        if (wrong != 0) {
            System.exit(1);
        }
    }
}
