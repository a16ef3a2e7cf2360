/**
 * Part 4: of the FAILURES that there are at once the first one in the order of the text, for every set of them; FAULTS
 * and FAILURES as numbers.
 */
public final class FailuresTest {
    private static final int NONE = Due.NONE;
    private static final int STATIC = Due.STATIC, FINAL = Due.FINAL, HIDDEN = Due.HIDDEN, ABSTRACT = Due.ABSTRACT;
    private static final int INTS = Houses.INTS, LONGS = Houses.LONGS;

    /** What may be wrong, as bits, in the order in which a CALLER MEETS it. */
    private static final int T_BARRED = 1, T_BROKEN = 2, IS_LOST = 4, IS_CLOSED = 8, IS_CHANGED = 16;
    private static final int R_BARRED = 32, R_BROKEN = 64, IS_UNLIKE = 128, THE_LAST = 256;

    private static boolean has(int wrong, int one) {
        return (wrong & one) != 0;
    }

    /** 1 under 0, and 2 under 1; 4 under 3. The MEMBER 0 is of 1, which is t. 2 is BELOW t, 4 is not. */
    private static Edits13 house(boolean method, int marks) {
        Edits13 x = new Edits13();
        Due.plainClass(x);
        Due.classUnder(x, 0);
        Due.classUnder(x, 1);
        Due.plainClass(x);
        Due.classUnder(x, 3);
        if (method) {
            Due.plainMethod(x, 1, 0, marks, 5);
        } else {
            x.field(1, 0, INTS, marks, 5L);
        }
        return x;
    }

    private static void breakUnder(Edits13 x, int above, int name) {
        Due.plainMethod(x, above, name, FINAL, 1);
        Due.plainMethod(x, above + 1, name, 0, 1);
    }

    /** Does what is wrong with t and with r: r is 4 if it is UNLIKE, else 2. */
    private static int spoil(Edits13 x, int wrong) {
        int aboveR = has(wrong, IS_UNLIKE) ? 3 : 1;
        if (has(wrong, T_BARRED)) {
            x.marks(0, FINAL);
        }
        if (has(wrong, T_BROKEN)) {
            breakUnder(x, 0, 5);
        }
        if (has(wrong, R_BARRED)) {
            x.marks(aboveR, FINAL);
        }
        if (has(wrong, R_BROKEN)) {
            breakUnder(x, aboveR, 6);
        }
        return aboveR + 1;
    }

    private static int first(int wrong, int last) {
        int[] bits = {T_BARRED, T_BROKEN, IS_LOST, IS_CLOSED, IS_CHANGED, R_BARRED, R_BROKEN, IS_UNLIKE, THE_LAST};
        int[] due = {Due.BARRED, Due.BROKEN, Due.LOST, Due.CLOSED, Due.CHANGED, Due.BARRED, Due.BROKEN, Due.UNLIKE,
            last};
        for (int i = 0; i < bits.length; i++) {
            if (has(wrong, bits[i])) {
                return due[i];
            }
        }
        return 0;
    }

    /** What is met: the FAILURE, by which nothing is ASKED for; or 0, and it is. */
    private static void meets(String what, Edits13 x, int r, int due, long value) {
        Due.same(what, x.meet(0, r), due);
        Due.same(what + ", ASKED", x.asked(), due == 0 ? value : 0);
    }

    private static int marksOf(int wrong, boolean wasStatic) {
        boolean isStatic = has(wrong, IS_CHANGED) != wasStatic;
        return (isStatic ? STATIC : 0) | (has(wrong, IS_CLOSED) ? HIDDEN : 0);
    }

    private static void get() {
        for (int wrong = 0; wrong < 512; wrong++) {
            Edits13 x = house(false, 0);
            x.get(1, 0);
            int r = spoil(x, wrong);
            x.mark(0, marksOf(wrong, false));
            if (has(wrong, THE_LAST)) {
                x.retype(0, LONGS, 5L);
            }
            if (has(wrong, IS_LOST)) {
                x.drop(0);
            }
            meets("18: GET, wrong is " + wrong, x, r, first(wrong, Due.CAST), 5);
        }
    }

    /** Of what is STATIC r is not looked at. */
    private static void getOfStatic() {
        for (int wrong = 0; wrong < 512; wrong++) {
            Edits13 x = house(false, STATIC);
            x.get(1, 0);
            int r = spoil(x, wrong);
            x.mark(0, marksOf(wrong, true));
            if (has(wrong, THE_LAST)) {
                x.retype(0, LONGS, 5L);
            }
            if (has(wrong, IS_LOST)) {
                x.drop(0);
            }
            int ofT = wrong & ~(R_BARRED | R_BROKEN | IS_UNLIKE);
            meets("18: GET, STATIC, wrong is " + wrong, x, r, first(ofT, Due.CAST), 5);
        }
    }

    /** "GET of what was kept: that (READS nothing)": whatever is wrong. */
    private static void getOfWhatWasKept() {
        for (int wrong = 0; wrong < 512; wrong++) {
            Edits13 x = house(false, STATIC | FINAL);
            x.get(1, 0);
            int r = spoil(x, wrong);
            x.mark(0, marksOf(wrong, true));
            x.retype(0, has(wrong, THE_LAST) ? LONGS : INTS, 6L);
            if (has(wrong, IS_LOST)) {
                x.drop(0);
            }
            meets("18: GET, kept, wrong is " + wrong, x, r, 0, 5);
        }
    }

    private static void call() {
        for (int wrong = 0; wrong < 512; wrong++) {
            boolean empty = has(wrong, THE_LAST);
            if (empty && (wrong & (IS_CLOSED | IS_CHANGED)) != 0) {
                continue; // ABSTRACT goes neither with HIDDEN nor with STATIC
            }
            Edits13 x = house(true, 0);
            x.call(1, 0, NONE, NONE);
            int r = spoil(x, wrong);
            x.mark(0, empty ? ABSTRACT : marksOf(wrong, false));
            if (has(wrong, IS_LOST)) {
                x.drop(0);
            }
            meets("18: CALL, wrong is " + wrong, x, r, first(wrong, Due.EMPTY), 5);
        }
    }

    private static void callOfStatic() {
        for (int wrong = 0; wrong < 256; wrong++) {
            Edits13 x = house(true, STATIC);
            x.call(1, 0, NONE, NONE);
            int r = spoil(x, wrong);
            x.mark(0, marksOf(wrong, true));
            if (has(wrong, IS_LOST)) {
                x.drop(0);
            }
            int ofT = wrong & ~(R_BARRED | R_BROKEN | IS_UNLIKE);
            meets("18: CALL, STATIC, wrong is " + wrong, x, r, first(ofT, 0), 5);
        }
    }

    private static void make() {
        for (int wrong = 0; wrong < 512; wrong++) {
            Edits13 x = house(true, 0);
            x.make(1);
            int r = spoil(x, wrong);
            if (has(wrong, THE_LAST)) {
                x.marks(1, x.told(1, 2) | 1);
            }
            int ofT = wrong & (T_BARRED | T_BROKEN | THE_LAST);
            meets("18: NEW, wrong is " + wrong, x, r, first(ofT, Due.UNMADE), 1);
        }
    }

    /** "what is above it, by the same rules, then .. itself": of a chain the highest one that fails. */
    private static void read() {
        for (int wrong = 0; wrong < 64; wrong++) {
            Edits13 x = new Edits13();
            Due.plainClass(x);
            Due.plainMethod(x, 0, 0, FINAL, 1);
            int due = 0;
            for (int t = 1; t <= 3; t++) {
                Due.classUnder(x, t - 1);
            }
            for (int t = 1; t <= 3; t++) {
                boolean barred = (wrong >> t - 1 & 1) != 0;
                boolean broken = (wrong >> t + 2 & 1) != 0;
                due = due != 0 ? due : barred ? Due.BARRED : broken ? Due.BROKEN : 0;
            }
            x.make(3);
            for (int t = 1; t <= 3; t++) {
                if ((wrong >> t - 1 & 1) != 0) {
                    x.marks(t - 1, FINAL);
                }
                if ((wrong >> t + 2 & 1) != 0) {
                    Due.plainMethod(x, t, 0, 0, 1);
                }
            }
            meets("4: READ, wrong is " + wrong, x, 0, due, 3);
        }
    }

    /** 2 BROKEN for every pair of MARKS: both "not STATIC, not HIDDEN", the one above FINAL. */
    private static void broken() {
        for (int up = 0; up <= 8; up++) {
            for (int down = 0; down <= 8; down++) {
                Edits13 x = new Edits13();
                Due.plainClass(x);
                Due.classUnder(x, 0);
                Due.classUnder(x, 1);
                x.make(2);
                x.method(0, 0, 0, 1, up, 1);
                x.method(2, 0, 0, 1, down, 1);
                x.method(2, 0, 1, 0, 0, 1);
                boolean breaks = up == FINAL && (down & (STATIC | HIDDEN)) == 0;
                meets("4: BROKEN, MARKS " + up + " and " + down, x, 0, breaks ? Due.BROKEN : 0, 2);
            }
        }
    }

    /** 1 BARRED for all MARKS of what is above, and of the one above that: FINAL bars, ABSTRACT does not. */
    private static void barred() {
        for (int top = 0; top < 4; top++) {
            for (int up = 0; up < 4; up++) {
                for (int own = 0; own < 4; own += 2) {
                    Edits13 x = new Edits13();
                    Due.plainClass(x);
                    Due.classUnder(x, 0);
                    Due.classUnder(x, 1);
                    x.make(2);
                    x.marks(0, top);
                    x.marks(1, up);
                    x.marks(2, own);
                    boolean bars = (top & FINAL) != 0 || (up & FINAL) != 0;
                    meets("4: BARRED, MARKS " + top + ", " + up + ", " + own, x, 0, bars ? Due.BARRED : 0, 2);
                }
            }
        }
    }

    /** The TYPE with the least number under those with greater ones, and the longest way up. */
    private static void readByNumbers() {
        Edits13 x = new Edits13();
        for (int t = 0; t < 12; t++) {
            Due.plainClass(x);
        }
        for (int t = 0; t < 11; t++) {
            x.above(t, t + 1);
        }
        x.make(0);
        Due.plainMethod(x, 11, 0, FINAL, 1);
        Due.plainMethod(x, 0, 0, 0, 2);
        Due.same("4: 0 is BROKEN by 11", x.meet(0, 0), Due.BROKEN);
        x.mark(1, HIDDEN);
        Due.same("4: it is HIDDEN", x.meet(0, 0), 0);
        x.marks(11, FINAL);
        Due.same("4: 10 is BARRED by 11", x.meet(0, 0), Due.BARRED);
        x.marks(11, 0);
        x.marks(1, FINAL);
        Due.same("4: 0 is BARRED by 1", x.meet(0, 0), Due.BARRED);
        x.marks(1, 0);
        x.move(1, 10);
        x.mark(1, ABSTRACT);
        Due.same("4: 10 is BROKEN by 11", x.meet(0, 0), Due.BROKEN);
    }

    /** Where a CLASS was taken back and a FACE has its number, nothing of the CLASS is left. */
    private static void numberAgain() {
        Edits13 x = new Edits13();
        Due.plainClass(x);
        Due.plainClass(x);
        Due.same("14", x.undo(), 1);
        Due.plainFace(x);
        x.face(0, 1);
        int m = Due.plainMethod(x, 1, 0, FINAL, 5);
        x.call(0, 0, NONE, NONE);
        Due.same("26: SELECTED of the FACE", x.selected(0, m), m);
        meets("18: of the FACE", x, 0, 0, 5);
        Due.plainMethod(x, 0, 0, 0, 6);
        Due.same("18: a FINAL one of a FACE breaks nothing", x.meet(0, 0), 0);
        Due.same("19", x.asked(), 6);
        Edits13 y = new Edits13();
        Due.plainClass(y);
        Due.same("14: down to nothing", y.undo(), 0);
        Due.plainFace(y);
        Due.plainClass(y);
        y.face(1, 0);
        Due.plainMethod(y, 0, 0, 0, 5);
        Due.same("26: of a FACE 0 that was a CLASS", y.selected(1, 0), 0);
        Due.same("26: it is no CLASS", y.selected(0, 0), Due.BAD);
    }

    /** FACES are READ too, but have nothing above them: neither FINAL FACES nor their FINAL METHODS fail. */
    private static void facesAreRead() {
        Edits13 x = new Edits13();
        Due.plainClass(x);
        x.type(true, NONE, FINAL);
        x.type(true, NONE, FINAL | 1);
        x.face(0, 1);
        x.face(1, 2);
        Due.plainMethod(x, 2, 0, FINAL, 1);
        Due.plainMethod(x, 1, 0, FINAL, 2);
        Due.plainMethod(x, 0, 0, FINAL, 3);
        x.call(1, 0, NONE, NONE);
        meets("4: FACES", x, 0, 0, 3);
    }

    /** "5 CHANGED t is a FACE and was not, or the other way round", ahead of what is LOOKED for. */
    private static void anotherSortOfType() {
        for (int was = 0; was < 2; was++) {
            for (int marks = 0; marks <= 8; marks++) {
                Edits13 x = new Edits13();
                Due.plainClass(x);
                x.type(was == 1, NONE, 0);
                Due.plainMethod(x, 1, 0, STATIC, 1);
                x.call(1, 0, NONE, NONE);
                x.undo();
                x.undo();
                Due.same("18: t is no more", x.meet(0, 0), Due.LOST);
                x.type(was == 0, NONE, 0);
                Due.same("18: ahead of LOST", x.meet(0, 0), Due.CHANGED);
                Due.plainMethod(x, 1, 0, marks, 1);
                Due.same("18: whatever there is, MARKS " + marks, x.meet(0, 0), Due.CHANGED);
                x.undo();
                x.undo();
                x.type(was == 1, NONE, 0);
                Due.same("18: of the same sort again: LOST", x.meet(0, 0), Due.LOST);
                Due.plainMethod(x, 1, 0, STATIC, 7);
                meets("18: of the same sort again", x, 0, 0, 7);
            }
        }
    }

    /** GET and NEW do not keep whether t is a FACE. */
    private static void anotherSortOfTypeElsewhere() {
        Edits13 x = new Edits13();
        Due.plainClass(x);
        Due.plainClass(x);
        x.field(1, 0, INTS, STATIC, 5L);
        x.get(1, 0);
        x.make(1);
        x.undo();
        x.undo();
        Due.plainFace(x);
        x.field(1, 0, INTS, STATIC, 6L);
        meets("18: GET", x, 0, 0, 6);
        Due.same("18: NEW of what is a FACE now", x.meet(1, 0), 0);
        Due.same("19: its number", x.asked(), 1);
        x.marks(1, 1);
        Due.same("18: NEW, of FACES ABSTRACT does not count", x.meet(1, 0), 0);
    }

    /** "8 EMPTY it is ABSTRACT or nothing; 5 CHANGED it CLASHES": on r, though t's own is as it was. */
    private static void selectedForR() {
        Edits13 x = new Edits13();
        Due.plainFace(x);
        Due.plainFace(x);
        Due.plainClass(x);
        x.face(2, 0);
        int m = Due.plainMethod(x, 0, 0, 0, 5);
        x.call(0, 0, NONE, NONE);
        meets("18: just one", x, 2, 0, 5);
        x.face(2, 1);
        Due.same("18: another FACE without one", x.meet(0, 2), 0);
        int n = Due.plainMethod(x, 1, 0, 0, 6);
        Due.same("18: CLASHES", x.meet(0, 2), Due.CHANGED);
        x.mark(m, ABSTRACT);
        Due.same("18: another one is it", x.meet(0, 2), 0);
        Due.same("19: another one is it", x.asked(), 6);
        x.mark(n, ABSTRACT);
        Due.same("18: ABSTRACT", x.meet(0, 2), Due.EMPTY);
        int own = Due.plainMethod(x, 2, 0, ABSTRACT, 7);
        Due.same("18: its own is ABSTRACT", x.meet(0, 2), Due.EMPTY);
        x.mark(own, HIDDEN);
        x.mark(m, 0);
        Due.same("18: a HIDDEN one of r is passed", x.meet(0, 2), 0);
        Due.same("19: a HIDDEN one of r is passed", x.asked(), 5);
    }

    /** As r is BELOW t, what t has is found behind what is passed: "nothing" cannot be. */
    private static void passedOnTheWayUp() {
        int[] passed = {STATIC, HIDDEN, STATIC | HIDDEN, 7};
        for (int marks : passed) {
            Edits13 x = new Edits13();
            Due.plainClass(x);
            Due.plainMethod(x, 0, 0, 0, 5);
            x.call(0, 0, NONE, NONE);
            Due.classUnder(x, 0);
            Due.plainMethod(x, 1, 0, marks, 6);
            meets("18: one of r with MARKS " + marks + " is passed", x, 1, 0, 5);
        }
    }

    public static void main(String[] args) {
        get();
        getOfStatic();
        getOfWhatWasKept();
        call();
        callOfStatic();
        make();
        read();
        broken();
        barred();
        readByNumbers();
        numberAgain();
        facesAreRead();
        anotherSortOfType();
        anotherSortOfTypeElsewhere();
        selectedForR();
        passedOnTheWayUp();
        Due.end();
    }
}
