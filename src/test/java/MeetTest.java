/** Promises 18 to 21: what a CALLER MEETS, now, anew and behind each EDIT. */
public final class MeetTest {
    private static final int BAD = Due.BAD, NONE = Due.NONE;
    private static final int STATIC = Due.STATIC, FINAL = Due.FINAL, HIDDEN = Due.HIDDEN, ABSTRACT = Due.ABSTRACT;

    private static void meets(String what, Edits13 x, int caller, int r, long due) {
        Due.same(what, x.meet(caller, r), 0);
        Due.same(what + ", ASKED", x.asked(), due);
    }

    private static void bad() {
        Edits13 x = new Edits13();
        int a = Due.plainClass(x);
        int f = Due.plainFace(x);
        x.make(a);
        Due.same("18: no CALLER", x.meet(1, a), BAD);
        Due.same("18: CALLER -1", x.meet(-1, a), BAD);
        Due.same("18: r is a FACE", x.meet(0, f), BAD);
        Due.same("18: r is none, which NEW does not look at else", x.meet(0, 2), BAD);
        Due.same("18: r NONE", x.meet(0, NONE), BAD);
        Due.same("20: no CALLER", x.anew(1, a), BAD);
        Due.same("20: r is a FACE", x.anew(0, f), BAD);
        Due.same("20: r is none", x.anew(0, 2), BAD);
        Due.same("21: no CALLER", x.culprit(1, a), BAD);
        Due.same("21: r is a FACE", x.culprit(0, f), BAD);
        Due.same("21: r is none", x.culprit(0, 2), BAD);
    }

    private static void asked() {
        Edits13 x = new Edits13();
        int a = Due.plainClass(x);
        int f = x.field(a, 0, 5, 0, 1L << 40);
        int b = Due.plainClass(x);
        x.get(a, 0);
        x.make(b);
        Due.same("19: before", x.asked(), 0);
        meets("19: a long", x, 0, a, 1L << 40);
        Due.same("19: a FAILURE", x.meet(0, b), Due.UNLIKE);
        Due.same("19: changes nothing", x.asked(), 1L << 40);
        Due.same("19: BAD", x.meet(2, b), BAD);
        Due.same("19: changes nothing", x.asked(), 1L << 40);
        meets("19: NEW", x, 1, a, b);
        x.set(f, 5);
        Due.same("19: culprit", x.culprit(0, a), 4);
        Due.same("19: ASKS for nothing", x.asked(), b);
        Due.same("20: anew", x.anew(0, a), 0);
        Due.same("19: anew ASKS", x.asked(), 5);
        x.marks(b, 1);
        Due.same("20: anew FAULTS", x.anew(1, a), Due.HOLLOW);
        Due.same("19: changes nothing", x.asked(), 5);
    }

    private static void read() {
        Edits13 x = new Edits13();
        int a = Due.plainClass(x);
        int b = Due.classUnder(x, a);
        int c = Due.classUnder(x, b);
        x.make(c);
        meets("4: READ", x, 0, a, c);
        x.marks(c, 2);
        meets("4: its own FINAL is none of it", x, 0, a, c);
        x.marks(a, 2);
        Due.same("4: BARRED far above", x.meet(0, a), Due.BARRED);
        x.marks(b, 2);
        Due.same("4: BARRED", x.meet(0, a), Due.BARRED);
        x.marks(a, 0);
        x.marks(b, 0);
        int up = Due.plainMethod(x, a, 0, FINAL, 1);
        int down = Due.plainMethod(x, c, 0, 0, 1);
        Due.same("4: BROKEN by one far above", x.meet(0, a), Due.BROKEN);
        x.mark(down, STATIC);
        meets("4: STATIC does not break", x, 0, a, c);
        x.mark(down, HIDDEN);
        meets("4: HIDDEN does not break", x, 0, a, c);
        x.mark(down, ABSTRACT);
        Due.same("4: ABSTRACT breaks", x.meet(0, a), Due.BROKEN);
        x.mark(up, FINAL | HIDDEN);
        meets("4: a HIDDEN one is not broken", x, 0, a, c);
        x.mark(up, FINAL | STATIC);
        meets("4: a STATIC one is not broken", x, 0, a, c);
        x.mark(up, 0);
        meets("4: one not FINAL is not broken", x, 0, a, c);
        x.mark(up, FINAL);
        x.move(down, b);
        Due.same("4: what is above is BROKEN", x.meet(0, a), Due.BROKEN);
        x.marks(b, 2);
        Due.same("4: which is ahead of BARRED of itself", x.meet(0, a), Due.BROKEN);
        x.marks(a, 2);
        Due.same("4: BARRED is ahead of BROKEN", x.meet(0, a), Due.BARRED);
        x.above(c, NONE);
        meets("4: nothing above", x, 0, a, c);
    }

    private static void readOfFaces() {
        Edits13 x = new Edits13();
        int c = Due.plainClass(x);
        int f = x.type(true, NONE, 2);
        x.face(c, f);
        Due.plainMethod(x, f, 0, FINAL, 1);
        Due.plainMethod(x, c, 0, 0, 2);
        int call = x.call(c, 0, NONE, NONE);
        meets("4: a FINAL FACE bars nothing, and its FINAL METHOD breaks nothing", x, call, c, 2);
    }

    private static void readOfR() {
        Edits13 x = new Edits13();
        int a = Due.plainClass(x);
        int b = Due.classUnder(x, a);
        int c = Due.plainClass(x);
        int d = Due.classUnder(x, c);
        x.field(a, 0, 4, 0, 5);
        x.field(a, 1, 4, STATIC, 6);
        Due.plainMethod(x, a, 2, 0, 7);
        Due.plainMethod(x, a, 3, STATIC, 8);
        x.get(a, 0);
        x.get(a, 1);
        x.call(a, 2, NONE, NONE);
        x.call(a, 3, NONE, NONE);
        x.make(a);
        Due.same("18: UNLIKE", x.meet(0, d), Due.UNLIKE);
        Due.same("18: UNLIKE", x.meet(2, d), Due.UNLIKE);
        x.marks(c, 2);
        Due.same("18: r is READ, ahead of UNLIKE", x.meet(0, d), Due.BARRED);
        Due.same("18: r is READ, ahead of UNLIKE", x.meet(2, d), Due.BARRED);
        meets("18: not by a STATIC FIELD", x, 1, d, 6);
        meets("18: not by a STATIC METHOD", x, 3, d, 8);
        meets("18: not by NEW", x, 4, d, a);
        meets("18: on one BELOW", x, 0, b, 5);
        meets("18: on one BELOW", x, 2, b, 7);
        x.marks(a, 2);
        Due.same("18: on one BELOW that is BARRED", x.meet(0, b), Due.BARRED);
        meets("18: t itself is not BARRED", x, 0, a, 5);
        x.retype(0, 0, 1);
        Due.same("18: r is READ, ahead of CAST", x.meet(0, b), Due.BARRED);
        x.marks(a, 0);
        Due.same("18: UNLIKE, ahead of CAST", x.meet(0, c), Due.UNLIKE);
        Due.same("18: CAST", x.meet(0, b), Due.CAST);
    }

    private static void getFailures() {
        Edits13 x = new Edits13();
        int a = Due.plainClass(x);
        int b = Due.classUnder(x, a);
        int f = x.field(a, 0, 4, 0, 5);
        int s = x.field(a, 1, 4, STATIC, 6);
        x.get(b, 0);
        x.get(b, 1);
        meets("18: GET", x, 0, b, 5);
        meets("18: GET of a STATIC one", x, 1, a, 6);
        Due.same("18: UNLIKE", x.meet(0, a), Due.UNLIKE);
        x.mark(f, HIDDEN | STATIC);
        Due.same("18: CLOSED, ahead of CHANGED", x.meet(0, b), Due.CLOSED);
        x.mark(f, STATIC);
        Due.same("18: CHANGED to STATIC, ahead of UNLIKE", x.meet(0, a), Due.CHANGED);
        x.mark(f, STATIC | FINAL);
        Due.same("18: STATIC and FINAL now, CHANGED", x.meet(0, b), Due.CHANGED);
        x.mark(s, 0);
        Due.same("18: CHANGED from STATIC", x.meet(1, b), Due.CHANGED);
        x.mark(s, STATIC);
        x.retype(s, 5, 9);
        Due.same("18: CAST of a STATIC one", x.meet(1, b), Due.CAST);
        x.drop(s);
        Due.same("18: LOST", x.meet(1, b), Due.LOST);
        x.field(b, 1, 1, STATIC | FINAL, 300);
        meets("18: another one is found", x, 1, b, 44);
        x.field(a, 1, 1, STATIC, 7);
        x.mark(s, STATIC | HIDDEN);
        Due.same("18: a HIDDEN one is found first", x.meet(1, b), Due.CLOSED);
        x.marks(a, 2);
        Due.same("18: BARRED, ahead of CLOSED", x.meet(1, b), Due.BARRED);
        x.drop(s);
        Due.same("18: BARRED, ahead of LOST", x.meet(1, b), Due.BARRED);
    }

    private static void kept() {
        Edits13 x = new Edits13();
        int a = Due.plainClass(x);
        int b = Due.classUnder(x, a);
        int f = x.field(a, 0, 6, STATIC | FINAL, 16777217);
        x.get(b, 0);
        meets("18: kept", x, 0, a, 16777216);
        x.set(f, 3);
        meets("18: kept though set", x, 0, a, 16777216);
        x.mark(f, HIDDEN);
        meets("18: kept though HIDDEN", x, 0, a, 16777216);
        x.drop(f);
        meets("18: kept though dropped", x, 0, a, 16777216);
        x.marks(a, 2);
        meets("18: kept READS nothing", x, 0, b, 16777216);
        Due.same("21: no EDIT changed it", x.culprit(0, b), 0);
        Due.same("20: anew there is none", x.anew(0, b), Due.NO_SUCH);
        for (int i = 0; i < 5; i++) {
            x.undo();
        }
        meets("18: kept though undone", x, 0, a, 16777216);
        x.undo();
        Due.same("18: its TYPE is no more: LOST ahead of all", x.meet(0, a), Due.LOST);
        Due.same("20: its TYPE is no more", x.anew(0, a), NONE);
        Due.same("21: fewer EDITS", x.culprit(0, a), NONE);
        Due.plainFace(x);
        meets("18: its number is there again", x, 0, a, 16777216);
    }

    /** Of each KIND those that it WIDENS to, by hand. */
    private static void widens() {
        int[][] wider = {{0}, {1, 3, 4, 5, 6, 7}, {2, 4, 5, 6, 7}, {3, 4, 5, 6, 7}, {4, 5, 6, 7}, {5, 6, 7}, {6, 7}, {7}};
        for (int from = 0; from < 8; from++) {
            for (int to = 0; to < 8; to++) {
                Edits13 x = new Edits13();
                Due.plainClass(x);
                x.field(0, 0, to, 0, 0);
                x.get(0, 0);
                x.retype(0, from, 1);
                boolean does = false;
                for (int one : wider[from]) {
                    does |= one == to;
                }
                Due.same("18: KIND " + from + " to " + to, x.meet(0, 0), does ? 0 : Due.CAST);
                Due.same("18: KIND " + from + " to " + to + ", ASKED", x.asked(), does ? 1 : 0);
            }
        }
    }

    private static void widened(int from, long v, int to, long due) {
        Edits13 x = new Edits13();
        Due.plainClass(x);
        x.field(0, 0, to, 0, 0);
        x.get(0, 0);
        x.retype(0, from, v);
        meets("18: " + v + " of KIND " + from + " as " + to, x, 0, 0, due);
    }

    private static void values() {
        widened(1, 200, 3, -56);
        widened(1, 200, 5, -56);
        widened(2, -1, 4, 65535);
        widened(2, -1, 6, 65535);
        widened(3, 40000, 4, -25536);
        widened(4, 16777217, 6, 16777216);
        widened(4, 16777217, 7, 16777217);
        widened(4, Integer.MAX_VALUE, 6, 1L << 31);
        widened(5, 16777219, 6, 16777220);
        widened(5, (1L << 53) + 1, 7, 1L << 53);
        widened(5, Long.MAX_VALUE, 6, Long.MAX_VALUE);
        widened(5, Long.MAX_VALUE - 1, 7, Long.MAX_VALUE);
        widened(5, Long.MIN_VALUE, 7, Long.MIN_VALUE);
        widened(6, 16777217, 7, 16777216);
        widened(6, Long.MAX_VALUE, 7, Long.MAX_VALUE);
        widened(0, 256, 0, 1);
    }

    private static void callFailures() {
        Edits13 x = new Edits13();
        int a = Due.plainClass(x);
        int b = Due.classUnder(x, a);
        int c = Due.classUnder(x, b);
        int m = Due.plainMethod(x, a, 0, 0, 1);
        x.call(b, 0, NONE, NONE);
        meets("18: CALL", x, 0, b, 1);
        Due.same("18: UNLIKE", x.meet(0, a), Due.UNLIKE);
        int own = Due.plainMethod(x, c, 0, 0, 2);
        meets("18: what is SELECTED for r", x, 0, c, 2);
        meets("18: what is SELECTED for t", x, 0, b, 1);
        x.mark(own, ABSTRACT);
        Due.same("18: EMPTY for r", x.meet(0, c), Due.EMPTY);
        meets("18: but not for t", x, 0, b, 1);
        x.mark(m, HIDDEN | STATIC);
        Due.same("18: CLOSED, ahead of CHANGED", x.meet(0, c), Due.CLOSED);
        x.mark(m, STATIC);
        Due.same("18: CHANGED, ahead of UNLIKE", x.meet(0, a), Due.CHANGED);
        x.mark(m, ABSTRACT);
        Due.same("18: UNLIKE, ahead of EMPTY", x.meet(0, a), Due.UNLIKE);
        Due.same("18: EMPTY for t", x.meet(0, b), Due.EMPTY);
        x.drop(m);
        Due.same("18: LOST, one BELOW does not count", x.meet(0, c), Due.LOST);
        x.method(a, 0, a, NONE, 0, 3);
        Due.same("18: LOST, one with PARAMETERS is not LIKE it", x.meet(0, c), Due.LOST);
        x.marks(a, 2);
        Due.same("18: BARRED, ahead of LOST", x.meet(0, c), Due.BARRED);
    }

    private static void callOfStatic() {
        Edits13 x = new Edits13();
        int a = Due.plainClass(x);
        int b = Due.classUnder(x, a);
        int m = Due.plainMethod(x, a, 0, STATIC, 1);
        x.call(a, 0, NONE, NONE);
        int n = Due.plainMethod(x, b, 0, STATIC, 2);
        meets("18: a STATIC one is not SELECTED", x, 0, b, 1);
        x.mark(m, 0);
        Due.same("18: CHANGED from STATIC", x.meet(0, b), Due.CHANGED);
        x.mark(m, STATIC);
        x.set(m, -7);
        meets("18: its value", x, 0, b, -7);
        x.drop(m);
        x.move(n, a);
        meets("18: another one in its place", x, 0, b, 2);
    }

    private static void callClashes() {
        Edits13 x = new Edits13();
        int c = Due.plainClass(x);
        int f = Due.plainFace(x);
        int g = Due.plainFace(x);
        x.face(c, f);
        x.face(c, g);
        int m = Due.plainMethod(x, f, 0, 0, 1);
        x.call(f, 0, NONE, NONE);
        meets("18: CALL of a FACE", x, 0, c, 1);
        int n = Due.plainMethod(x, g, 0, 0, 2);
        Due.same("18: it CLASHES", x.meet(0, c), Due.CHANGED);
        x.mark(n, ABSTRACT);
        meets("18: just one", x, 0, c, 1);
        x.mark(m, ABSTRACT);
        Due.same("18: none", x.meet(0, c), Due.EMPTY);
        int own = Due.plainMethod(x, c, 0, 0, 3);
        meets("18: of the CLASS", x, 0, c, 3);
        x.mark(own, STATIC);
        Due.same("18: a STATIC one of r is passed", x.meet(0, c), Due.EMPTY);
        x.unface(c, 0);
        Due.same("18: UNLIKE", x.meet(0, c), Due.UNLIKE);
    }

    private static void callOfAnotherSort() {
        Edits13 x = new Edits13();
        int a = Due.plainClass(x);
        Due.plainClass(x);
        Due.plainMethod(x, 1, 0, STATIC, 1);
        x.call(1, 0, NONE, NONE);
        x.undo();
        x.undo();
        Due.same("18: t is no more", x.meet(0, a), Due.LOST);
        Due.plainFace(x);
        Due.same("18: t is a FACE and was not, ahead of LOST", x.meet(0, a), Due.CHANGED);
        Due.plainMethod(x, 1, 0, STATIC, 1);
        Due.same("18: t is a FACE and was not", x.meet(0, a), Due.CHANGED);
        Due.same("20: anew", x.anew(0, a), 0);
        x.call(1, 0, NONE, NONE);
        meets("18: made on a FACE", x, 1, a, 1);
        x.undo();
        x.undo();
        Due.classUnder(x, a);
        Due.same("18: t was a FACE and is not", x.meet(1, a), Due.CHANGED);
        Due.same("18: t is a CLASS as it was: LOST", x.meet(0, a), Due.LOST);
        x.marks(a, 2);
        Due.same("18: BARRED, ahead of CHANGED", x.meet(1, a), Due.BARRED);
    }

    private static void namesThatAreNoMore() {
        Edits13 x = new Edits13();
        int a = Due.plainClass(x);
        x.method(a, 0, a, NONE, STATIC, 1);
        int b = Due.classUnder(x, a);
        x.method(a, 0, b, NONE, STATIC, 2);
        int c = Due.classUnder(x, b);
        int second = x.call(a, 0, c, NONE);
        Due.same("22: PARAMETER", x.caller(second, 3), b);
        meets("18: all are there", x, second, a, 2);
        x.undo();
        meets("18: the argument's TYPE is not looked at", x, second, a, 2);
        Due.same("20: but anew it is", x.anew(second, a), NONE);
        Due.same("20: BAD ahead of NONE", x.anew(second, 5), BAD);
        x.undo();
        Due.same("18: a METHOD is no more", x.meet(second, a), Due.LOST);
        x.undo();
        Due.same("18: the PARAMETER is no more", x.meet(second, a), Due.LOST);
        Due.plainClass(x);
        x.method(a, 0, 1, NONE, STATIC, 8);
        meets("18: the number again", x, second, a, 8);
    }

    private static void parameterIsNoMore() {
        Edits13 x = new Edits13();
        int a = Due.plainClass(x);
        int f = Due.plainFace(x);
        x.face(a, f);
        x.method(a, 0, f, NONE, STATIC, 1);
        int call = x.call(a, 0, a, NONE);
        x.undo();
        x.undo();
        x.undo();
        x.marks(a, 1);
        x.type(false, NONE, 2);
        x.above(a, 1);
        Due.same("18: BARRED", x.meet(call, a), Due.BARRED);
        for (int i = 0; i < 3; i++) {
            x.undo();
        }
        Due.same("18: the PARAMETER is no more", x.meet(call, a), Due.LOST);
        Due.same("20: the TYPES named are there", x.anew(call, a), Due.NO_SUCH);
        x.method(a, 0, a, NONE, STATIC, 4);
        Due.same("20: and find another METHOD", x.anew(call, a), 0);
        Due.same("20: its value", x.asked(), 4);
        Due.same("18: it itself does not", x.meet(call, a), Due.LOST);
    }

    private static void lostIsAheadOfAll() {
        Edits13 x = new Edits13();
        int a = Due.plainClass(x);
        int b = Due.classUnder(x, a);
        int f = Due.plainFace(x);
        int g = Due.plainFace(x);
        x.method(b, 0, f, NONE, STATIC, 1);
        x.method(b, 0, b, g, STATIC, 2);
        x.call(b, 0, f, NONE);
        x.call(b, 0, b, g);
        for (int i = 0; i < 3; i++) {
            x.undo();
        }
        x.marks(a, 2);
        Due.same("18: the second PARAMETER is no more, ahead of BARRED", x.meet(1, a), Due.LOST);
        Due.same("18: the PARAMETER is there: BARRED", x.meet(0, a), Due.BARRED);
        x.undo();
        x.undo();
        x.marks(a, 2);
        Due.same("18: the first PARAMETER is no more, ahead of BARRED", x.meet(0, a), Due.LOST);
        Due.same("18: r is no CLASS, ahead of LOST", x.meet(0, f), BAD);
    }

    private static void newMeets() {
        Edits13 x = new Edits13();
        int a = Due.plainClass(x);
        int b = Due.classUnder(x, a);
        x.make(b);
        meets("18: NEW", x, 0, a, b);
        x.marks(b, 1);
        Due.same("18: HOLLOW", x.meet(0, a), Due.UNMADE);
        x.marks(a, 2);
        Due.same("18: BARRED, ahead of HOLLOW", x.meet(0, a), Due.BARRED);
        x.undo();
        x.undo();
        x.undo();
        Due.same("18: LOST", x.meet(0, a), Due.LOST);
        x.type(true, NONE, 1);
        meets("18: of a FACE ABSTRACT does not count", x, 0, a, b);
        Due.same("20: anew a FACE is HOLLOW", x.anew(0, a), Due.HOLLOW);
    }

    private static void anew() {
        Edits13 x = new Edits13();
        int a = Due.plainClass(x);
        int b = Due.classUnder(x, a);
        x.method(a, 0, a, NONE, 0, 1);
        int f = x.field(a, 1, 4, 0, 9);
        x.call(a, 0, b, NONE);
        x.get(a, 1);
        int near = x.method(a, 0, b, NONE, 0, 2);
        meets("18: the old one", x, 0, a, 1);
        Due.same("20: anew the nearer one", x.anew(0, a), 0);
        Due.same("20: its value", x.asked(), 2);
        Due.same("22: the CALLER stays as it was made", x.caller(0, 3), a);
        meets("18: the old one still", x, 0, a, 1);
        x.mark(near, STATIC);
        Due.same("20: anew a STATIC one", x.anew(0, a), 0);
        x.mark(near, ABSTRACT);
        Due.same("20: EMPTY", x.anew(0, a), Due.EMPTY);
        x.mark(near, 0);
        x.method(a, 0, a, a, 0, 3);
        x.retype(f, 5, 1L << 40);
        Due.same("18: CAST", x.meet(1, a), Due.CAST);
        Due.same("20: not anew", x.anew(1, a), 0);
        Due.same("20: a long", x.asked(), 1L << 40);
        x.mark(f, STATIC | FINAL);
        Due.same("18: CHANGED", x.meet(1, a), Due.CHANGED);
        Due.same("20: not anew", x.anew(1, a), 0);
        Due.same("22: the CALLER keeps no value", x.caller(1, 5), 0);
        x.mark(f, HIDDEN);
        Due.same("18: CLOSED", x.meet(1, a), Due.CLOSED);
        Due.same("20: anew there is NO such", x.anew(1, a), Due.NO_SUCH);
        Due.same("27: no CALLER was made", x.count(2), 2);
    }

    private static void anewFaults() {
        Edits13 x = new Edits13();
        int a = Due.plainClass(x);
        int b = Due.classUnder(x, a);
        x.method(a, 0, a, b, 0, 1);
        x.call(a, 0, b, b);
        x.make(b);
        x.method(a, 0, b, a, 0, 2);
        Due.same("20: MANY", x.anew(0, a), Due.MANY);
        meets("18: it itself MEETS one", x, 0, a, 1);
        x.marks(b, 1);
        Due.same("20: HOLLOW", x.anew(1, a), Due.HOLLOW);
        x.marks(b, 0);
        x.marks(a, 2);
        Due.same("20: FAILURES as meet()", x.anew(1, a), Due.BARRED);
        Due.same("20: FAULTS, ahead of FAILURES", x.anew(0, b), Due.MANY);
    }

    private static void culprit() {
        Edits13 x = new Edits13();
        int a = Due.plainClass(x);
        int b = Due.classUnder(x, a);
        int f = x.field(a, 0, 4, 0, 5);
        x.get(a, 0);
        Due.same("21: none", x.culprit(0, a), 0);
        x.set(f, 5);
        x.marks(a, 0);
        Due.same("21: none that changes anything", x.culprit(0, a), 0);
        int late = Due.plainClass(x);
        Due.same("21: r was no CLASS then", x.culprit(0, late), BAD);
        x.marks(a, 2);
        Due.same("21: on b it is BARRED", x.culprit(0, b), 7);
        Due.same("21: on a it is not", x.culprit(0, a), 0);
        x.set(f, 6);
        Due.same("21: something else", x.culprit(0, a), 8);
        x.set(f, 5);
        Due.same("21: the first one, though all is as it was", x.culprit(0, a), 8);
        long before = x.digest();
        x.culprit(0, a);
        Due.same("21: nothing changes", x.digest(), before);
        x.get(a, 0);
        Due.same("21: of a later CALLER", x.culprit(1, a), 0);
        x.drop(f);
        Due.same("21: of a later CALLER, the last EDIT", x.culprit(1, a), 10);
        x.undo();
        x.undo();
        Due.same("21: fewer EDITS", x.culprit(1, a), NONE);
        Due.same("21: BAD is ahead", x.culprit(1, 4), BAD);
        x.mark(f, STATIC);
        Due.same("21: as many EDITS", x.culprit(1, a), 0);
        Due.same("18: though it MEETS a FAILURE", x.meet(1, a), Due.CHANGED);
        x.mark(f, 0);
        Due.same("21: another than behind that many", x.culprit(1, a), 10);
    }

    private static void culpritOfFailures() {
        Edits13 x = new Edits13();
        int a = Due.plainClass(x);
        int f = x.field(a, 0, 4, 0, 5);
        x.get(a, 0);
        x.undo();
        x.marks(a, 1);
        Due.same("21: LOST to begin with", x.culprit(0, a), 0);
        x.marks(a, 0);
        Due.same("21: LOST still", x.culprit(0, a), 0);
        x.field(a, 0, 4, HIDDEN, 5);
        Due.same("21: another FAILURE", x.culprit(0, a), 4);
        x.mark(f, 0);
        Due.same("21: the first one", x.culprit(0, a), 4);
    }

    private static void culpritOfATypeThatComes() {
        Edits13 x = new Edits13();
        int a = Due.plainClass(x);
        int b = Due.plainClass(x);
        x.make(b);
        x.undo();
        x.marks(a, 0);
        Due.same("21: the TYPE is not there", x.culprit(0, a), 0);
        x.marks(a, 0);
        Due.plainClass(x);
        Due.same("21: the TYPE comes again", x.culprit(0, a), 4);
        Due.same("21: r was no CLASS then", x.culprit(0, b), BAD);
        meets("18: and is MET", x, 0, a, b);
    }

    private static void culpritAtTheEnds() {
        Edits13 x = new Edits13();
        int a = Due.plainClass(x);
        x.make(a);
        Due.fillEdits(x, a);
        Due.same("21: none of 120", x.culprit(0, a), 0);
        x.undo();
        x.marks(a, 1);
        Due.same("21: the 120th", x.culprit(0, a), 120);
        while (x.count(3) > 1) {
            x.undo();
        }
        x.marks(a, 1);
        Due.fillEdits(x, a);
        Due.same("21: the second", x.culprit(0, a), 2);
        Due.same("21: all EDITS are there", x.count(3), 120);
    }

    public static void main(String[] args) {
        bad();
        asked();
        read();
        readOfFaces();
        readOfR();
        getFailures();
        kept();
        widens();
        values();
        callFailures();
        callOfStatic();
        callClashes();
        callOfAnotherSort();
        namesThatAreNoMore();
        parameterIsNoMore();
        lostIsAheadOfAll();
        newMeets();
        anew();
        anewFaults();
        culprit();
        culpritOfFailures();
        culpritOfATypeThatComes();
        culpritAtTheEnds();
        Due.end();
    }
}
