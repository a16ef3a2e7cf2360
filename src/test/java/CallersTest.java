/** Promises 15 to 17, 22 and 26: CALLERS as they are made, and what is SELECTED. */
public final class CallersTest {
    private static final int BAD = Due.BAD, NONE = Due.NONE, FULL = Due.FULL, RING = Due.RING;
    private static final int STATIC = Due.STATIC, FINAL = Due.FINAL, HIDDEN = Due.HIDDEN, ABSTRACT = Due.ABSTRACT;

    private static void told(String what, Edits13 x, int caller, int... due) {
        for (int i = 0; i < due.length; i++) {
            Due.same(what + ": caller(" + caller + ", " + i + ")", x.caller(caller, i), due[i]);
        }
    }

    private static long value(Edits13 x, int caller, int r) {
        return x.meet(caller, r) == 0 ? x.asked() : -999;
    }

    private static void get() {
        Edits13 x = new Edits13();
        int a = Due.plainClass(x);
        int b = Due.classUnder(x, a);
        x.field(a, 0, 4, 0, 5);
        x.field(a, 1, 4, STATIC | FINAL, 6);
        x.field(a, 2, 4, STATIC, 7);
        x.field(a, 3, 4, FINAL, 8);
        x.field(a, 4, 4, HIDDEN, 9);
        Due.plainMethod(x, a, 5, 0, 0);
        Due.same("15: no TYPE", x.get(2, 0), BAD);
        Due.same("15: TYPE -1", x.get(-1, 0), BAD);
        Due.same("15: NAME -1", x.get(a, -1), BAD);
        Due.same("15: NAME 10", x.get(a, 10), BAD);
        Due.same("15: none", x.get(a, 9), Due.NO_SUCH);
        Due.same("15: HIDDEN", x.get(a, 4), Due.NO_SUCH);
        Due.same("15: a METHOD is no FIELD", x.get(a, 5), Due.NO_SUCH);
        Due.same("15: no CALLER was made", x.count(2), 0);
        Due.same("15: its own", x.get(a, 0), 0);
        Due.same("15: from above, STATIC and FINAL", x.get(b, 1), 1);
        Due.same("15: STATIC", x.get(b, 2), 2);
        Due.same("15: FINAL", x.get(b, 3), 3);
        told("22", x, 0, 0, a, 0, NONE, NONE, 0, 8);
        told("22", x, 1, 0, b, 1, NONE, NONE, 1, 8);
        told("22", x, 2, 0, b, 2, NONE, NONE, 0, 8);
        told("22", x, 3, 0, b, 3, NONE, NONE, 0, 8);
    }

    private static void getPassesHidden() {
        Edits13 x = new Edits13();
        int a = Due.plainClass(x);
        int b = Due.classUnder(x, a);
        x.field(a, 0, 4, STATIC | FINAL, 5);
        x.field(b, 0, 4, STATIC | FINAL | HIDDEN, 6);
        Due.same("15: a HIDDEN one is passed over", x.get(b, 0), 0);
        Due.same("15: what is above is kept", value(x, 0, a), 5);
    }

    private static void lookForFields() {
        Edits13 x = new Edits13();
        int a = Due.plainClass(x);
        int b = Due.classUnder(x, a);
        int f = Due.plainFace(x);
        int g = Due.plainFace(x);
        int h = Due.plainFace(x);
        x.face(b, f);
        x.face(b, g);
        x.face(f, h);
        x.field(a, 0, 4, STATIC, 1);
        Due.same("2: FIELDS above", x.get(b, 0), 0);
        Due.same("2: FIELDS above", value(x, 0, a), 1);
        x.field(g, 0, 4, STATIC, 2);
        Due.same("2: FIELDS of FACES ahead of above", value(x, 0, a), 2);
        x.field(h, 0, 4, STATIC, 3);
        Due.same("2: FIELDS of a FACE of the first FACE", value(x, 0, a), 3);
        x.field(f, 0, 4, STATIC, 4);
        Due.same("2: FIELDS of the first FACE", value(x, 0, a), 4);
        x.field(b, 0, 4, STATIC, 5);
        Due.same("2: its own FIELD", value(x, 0, a), 5);
    }

    private static void lookForMethods() {
        Edits13 x = new Edits13();
        int a = Due.plainClass(x);
        int b = Due.classUnder(x, a);
        int f = Due.plainFace(x);
        int g = Due.plainFace(x);
        int h = Due.plainFace(x);
        int up = Due.plainFace(x);
        x.face(b, f);
        x.face(b, g);
        x.face(f, h);
        x.face(a, up);
        Due.plainMethod(x, g, 0, STATIC, 1);
        Due.same("2: METHODS of a FACE", x.call(b, 0, NONE, NONE), 0);
        Due.same("2: METHODS of the second FACE", value(x, 0, a), 1);
        Due.plainMethod(x, h, 0, STATIC, 2);
        Due.same("2: METHODS of a FACE of the first FACE", value(x, 0, a), 2);
        Due.plainMethod(x, f, 0, STATIC, 3);
        Due.same("2: METHODS of the first FACE", value(x, 0, a), 3);
        Due.plainMethod(x, up, 0, STATIC, 4);
        Due.same("2: METHODS of a FACE of what is above", value(x, 0, a), 4);
        Due.plainMethod(x, a, 0, STATIC, 5);
        Due.same("2: METHODS above", value(x, 0, a), 5);
        Due.plainMethod(x, b, 0, STATIC, 6);
        Due.same("2: its own METHOD", value(x, 0, a), 6);
    }

    private static void call() {
        Edits13 x = new Edits13();
        int a = Due.plainClass(x);
        int b = Due.classUnder(x, a);
        int c = Due.classUnder(x, b);
        int f = Due.plainFace(x);
        x.method(a, 0, a, NONE, 0, 1);
        Due.same("16: no TYPE", x.call(4, 0, NONE, NONE), BAD);
        Due.same("16: NAME 10", x.call(a, 10, NONE, NONE), BAD);
        Due.same("16: NAME -1", x.call(a, -1, NONE, NONE), BAD);
        Due.same("16: a no TYPE", x.call(a, 0, 4, NONE), BAD);
        Due.same("16: a -1", x.call(a, 0, -1, NONE), BAD);
        Due.same("16: b no TYPE", x.call(a, 0, a, 4), BAD);
        Due.same("16: a NONE and b not", x.call(a, 0, NONE, a), BAD);
        Due.same("16: too few arguments", x.call(a, 0, NONE, NONE), Due.NO_SUCH);
        Due.same("16: too many arguments", x.call(a, 0, a, a), Due.NO_SUCH);
        Due.same("16: another NAME", x.call(a, 1, a, NONE), Due.NO_SUCH);
        Due.same("16: not BELOW", x.call(a, 0, f, NONE), Due.NO_SUCH);
        Due.same("16: BELOW", x.call(c, 0, c, NONE), 0);
        told("22", x, 0, 1, c, 0, a, NONE, 0, 5);
        x.method(b, 0, b, NONE, 0, 2);
        Due.same("16: the nearer one", x.call(c, 0, c, NONE), 1);
        told("22", x, 1, 1, c, 0, b, NONE, 0, 6);
        Due.same("16: of a there is the other one alone", x.call(a, 0, c, NONE), 2);
        told("22", x, 2, 1, a, 0, a, NONE, 0, 6);
        Due.same("16: of the argument a too", x.call(c, 0, a, NONE), 3);
        told("22", x, 3, 1, c, 0, a, NONE, 0, 6);
    }

    private static void callOfMany() {
        Edits13 x = new Edits13();
        int a = Due.plainClass(x);
        int b = Due.classUnder(x, a);
        x.method(a, 0, a, b, 0, 1);
        int m = x.method(a, 0, b, a, 0, 2);
        Due.same("16: MANY", x.call(a, 0, b, b), Due.MANY);
        Due.same("16: one fits", x.call(a, 0, a, b), 0);
        int best = x.method(a, 0, b, b, 0, 3);
        Due.same("16: the nearest", x.call(a, 0, b, b), 1);
        told("22", x, 1, 1, a, 0, b, b, 0, 5);
        x.mark(best, HIDDEN);
        Due.same("16: HIDDEN, so MANY", x.call(a, 0, b, b), Due.MANY);
        x.mark(m, HIDDEN);
        Due.same("16: HIDDEN, so one", x.call(a, 0, b, b), 2);
        told("22", x, 2, 1, a, 0, a, b, 0, 7);
    }

    private static void callFindsThoseOfFaces() {
        Edits13 x = new Edits13();
        int f = Due.plainFace(x);
        int g = Due.plainFace(x);
        int c = Due.plainClass(x);
        x.face(c, f);
        x.face(c, g);
        x.method(f, 0, f, NONE, ABSTRACT, 1);
        x.method(g, 0, g, NONE, ABSTRACT, 1);
        Due.same("16: MANY of two FACES", x.call(c, 0, c, NONE), Due.MANY);
        Due.same("16: on the FACE there is one", x.call(f, 0, c, NONE), 0);
        told("22", x, 0, 1, f, 0, f, NONE, 0, 7);
        x.method(c, 0, c, NONE, STATIC, 1);
        Due.same("16: STATIC ones fit too", x.call(c, 0, c, NONE), 1);
        told("22", x, 1, 1, c, 0, c, NONE, 0, 8);
        x.method(c, 0, f, NONE, HIDDEN, 1);
        Due.same("16: a HIDDEN one covers that of the FACE", x.call(c, 0, f, NONE), Due.NO_SUCH);
        Due.same("16: on the FACE itself it does not", x.call(f, 0, f, NONE), 2);
        told("22", x, 2, 1, f, 0, f, NONE, 0, 9);
    }

    private static void callOfHidden() {
        Edits13 x = new Edits13();
        int a = Due.plainClass(x);
        int b = Due.classUnder(x, a);
        int c = Due.classUnder(x, b);
        x.method(a, 0, c, NONE, 0, 1);
        x.method(a, 0, a, NONE, 0, 2);
        int own = x.method(b, 0, c, NONE, HIDDEN, 3);
        Due.same("16: the nearest one is covered, another one FITS", x.call(c, 0, c, NONE), 0);
        told("22", x, 0, 1, c, 0, a, NONE, 0, 6);
        Due.same("16: ahead of the HIDDEN one nothing is covered", x.call(a, 0, c, NONE), 1);
        told("22", x, 1, 1, a, 0, c, NONE, 0, 6);
        Due.same("20: covered anew", x.anew(0, c), 0);
        Due.same("20: covered anew, ASKED", x.asked(), 2);
        x.mark(own, HIDDEN | STATIC);
        Due.same("16: HIDDEN and STATIC covers too", x.call(c, 0, c, NONE), 2);
        told("22", x, 2, 1, c, 0, a, NONE, 0, 7);
        x.mark(own, STATIC);
        Due.same("16: no more HIDDEN, it FITS itself", x.call(c, 0, c, NONE), 3);
        told("22", x, 3, 1, c, 0, c, NONE, 0, 8);
        Due.same("16: and covers still", value(x, 3, a), 3);
        x.drop(own);
        Due.same("16: dropped, it covers nothing", x.call(c, 0, c, NONE), 4);
        told("22", x, 4, 1, c, 0, c, NONE, 0, 9);
        Due.same("16: but that above", value(x, 4, c), 1);
    }

    private static void callOfHiddenAbove() {
        Edits13 x = new Edits13();
        int a = Due.plainClass(x);
        int b = Due.classUnder(x, a);
        int f = Due.plainFace(x);
        int g = Due.plainFace(x);
        x.face(b, f);
        x.face(b, g);
        Due.plainMethod(x, g, 0, STATIC, 1);
        Due.same("16: of the second FACE", x.call(b, 0, NONE, NONE), 0);
        int first = Due.plainMethod(x, f, 0, HIDDEN, 2);
        Due.same("16: a HIDDEN one of the first FACE covers it", x.call(b, 0, NONE, NONE), Due.NO_SUCH);
        Due.same("20: anew likewise", x.anew(0, a), Due.NO_SUCH);
        Due.same("18: the old one MEETS it", x.meet(0, a), Due.CLOSED);
        x.mark(first, STATIC);
        Due.same("16: one that is not HIDDEN FITS", x.call(b, 0, NONE, NONE), 1);
        Due.plainMethod(x, a, 0, HIDDEN, 3);
        Due.same("16: a HIDDEN one above covers FACES", x.call(b, 0, NONE, NONE), Due.NO_SUCH);
        Due.same("16: and is none for its own TYPE", x.call(a, 0, NONE, NONE), Due.NO_SUCH);
        Due.plainMethod(x, b, 0, STATIC, 4);
        Due.same("16: its own is ahead of it", x.call(b, 0, NONE, NONE), 2);
        Due.same("16: its own", value(x, 2, a), 4);
        Due.same("27: those that were refused made none", x.count(2), 3);
    }

    private static void callOfManyHidden() {
        Edits13 x = new Edits13();
        int a = Due.plainClass(x);
        int b = Due.classUnder(x, a);
        x.method(a, 0, a, b, 0, 1);
        x.method(a, 0, b, a, 0, 2);
        Due.same("16: MANY", x.call(b, 0, b, b), Due.MANY);
        x.method(b, 0, b, a, HIDDEN, 3);
        Due.same("16: one of the MANY is covered", x.call(b, 0, b, b), 0);
        told("22", x, 0, 1, b, 0, a, b, 0, 5);
        Due.same("16: above there are MANY", x.call(a, 0, b, b), Due.MANY);
        x.method(a, 0, b, b, 0, 4);
        x.method(b, 0, b, b, HIDDEN, 5);
        Due.same("16: above the nearest one settles it", x.call(a, 0, b, b), 1);
        Due.same("16: here that is covered too", x.call(b, 0, b, b), 2);
        told("22", x, 2, 1, b, 0, a, b, 0, 7);
    }

    private static void make() {
        Edits13 x = new Edits13();
        int a = Due.plainClass(x);
        int b = x.type(false, NONE, 1);
        int f = Due.plainFace(x);
        int c = x.type(false, NONE, 2);
        Due.same("17: no TYPE", x.make(4), BAD);
        Due.same("17: NONE", x.make(NONE), BAD);
        Due.same("17: ABSTRACT", x.make(b), Due.HOLLOW);
        Due.same("17: a FACE", x.make(f), Due.HOLLOW);
        Due.same("17: a CLASS", x.make(a), 0);
        Due.same("17: a FINAL CLASS", x.make(c), 1);
        told("22", x, 1, 2, c, NONE, NONE, NONE, 0, 4);
    }

    private static void fullOfCallers() {
        Edits13 x = new Edits13();
        int a = Due.plainClass(x);
        int f = Due.plainFace(x);
        x.field(a, 0, 4, 0, 1);
        Due.plainMethod(x, a, 0, 0, 1);
        for (int c = 0; c < 24; c++) {
            Due.same("17: CALLER " + c, x.make(a), c);
        }
        Due.same("15: 24", x.get(a, 0), FULL);
        Due.same("15: 24, ahead of FAULTS", x.get(a, 1), FULL);
        Due.same("15: 24, behind BAD", x.get(2, 1), BAD);
        Due.same("16: 24", x.call(a, 0, NONE, NONE), FULL);
        Due.same("16: 24, ahead of FAULTS", x.call(a, 1, NONE, NONE), FULL);
        Due.same("16: 24, behind BAD", x.call(a, 0, NONE, a), BAD);
        Due.same("17: 24", x.make(a), FULL);
        Due.same("17: 24, ahead of FAULTS", x.make(f), FULL);
        Due.same("17: 24, behind BAD", x.make(2), BAD);
        Due.same("27: 24", x.count(2), 24);
        Due.same("20: anew makes none", x.anew(23, a), 0);
        x.undo();
        Due.same("17: undo takes no CALLER back", x.make(a), FULL);
    }

    private static void callerBad() {
        Edits13 x = new Edits13();
        Due.plainClass(x);
        x.make(0);
        Due.same("22: no CALLER", x.caller(1, 0), BAD);
        Due.same("22: CALLER -1", x.caller(-1, 0), BAD);
        Due.same("22: what -1", x.caller(0, -1), BAD);
        Due.same("22: what 7", x.caller(0, 7), BAD);
        x.undo();
        told("22: stays", x, 0, 2, 0, NONE, NONE, NONE, 0, 1);
    }

    private static void selected() {
        Edits13 x = new Edits13();
        int a = Due.plainClass(x);
        int b = Due.classUnder(x, a);
        int f = Due.plainFace(x);
        int field = x.field(a, 0, 4, 0, 1);
        int m = Due.plainMethod(x, f, 0, 0, 1);
        Due.same("26: no TYPE", x.selected(3, m), BAD);
        Due.same("26: a FACE", x.selected(f, m), BAD);
        Due.same("26: a FIELD", x.selected(a, field), BAD);
        Due.same("26: no MEMBER", x.selected(a, 2), BAD);
        Due.same("26: MEMBER -1", x.selected(a, -1), BAD);
        Due.same("26: nothing", x.selected(b, m), NONE);
        x.face(a, f);
        Due.same("26: of a FACE of what is above", x.selected(b, m), m);
        int up = Due.plainMethod(x, a, 0, 0, 2);
        Due.same("26: what is above", x.selected(b, m), up);
        int own = Due.plainMethod(x, b, 0, STATIC, 3);
        Due.same("26: a STATIC one is passed", x.selected(b, own), up);
        x.mark(own, HIDDEN);
        Due.same("26: a HIDDEN one is passed", x.selected(b, own), up);
        x.mark(own, ABSTRACT);
        Due.same("26: an ABSTRACT one is it", x.selected(b, m), NONE);
        x.mark(own, FINAL);
        Due.same("26: its own", x.selected(b, m), own);
        x.drop(own);
        x.mark(up, HIDDEN);
        Due.same("26: by a HIDDEN one to the FACE", x.selected(b, up), m);
        x.mark(m, STATIC);
        Due.same("26: a STATIC one of a FACE is none", x.selected(b, up), NONE);
        x.mark(m, HIDDEN);
        Due.same("26: a HIDDEN one of a FACE is none", x.selected(b, up), NONE);
    }

    private static void selectedOfFaces() {
        Edits13 x = new Edits13();
        int c = Due.plainClass(x);
        int f = Due.plainFace(x);
        int g = Due.plainFace(x);
        int h = Due.plainFace(x);
        x.face(c, f);
        x.face(c, g);
        x.face(c, h);
        int m = Due.plainMethod(x, f, 0, ABSTRACT, 1);
        int n = Due.plainMethod(x, g, 0, ABSTRACT, 2);
        Due.same("26: two ABSTRACT ones", x.selected(c, m), NONE);
        int o = Due.plainMethod(x, h, 0, 0, 3);
        Due.same("26: one that is not ABSTRACT", x.selected(c, m), o);
        x.mark(n, 0);
        Due.same("26: two", x.selected(c, m), RING);
        x.face(h, g);
        Due.same("26: one of which is BELOW the other", x.selected(c, m), o);
        x.mark(o, ABSTRACT);
        Due.same("26: an ABSTRACT one that is BELOW the other", x.selected(c, m), NONE);
        x.mark(o, STATIC);
        Due.same("26: a STATIC one does not stand ahead", x.selected(c, m), n);
        x.drop(o);
        Due.same("26: nor a FACE that has none", x.selected(c, m), n);
        x.mark(m, 0);
        Due.same("26: two again", x.selected(c, m), RING);
        int own = Due.plainMethod(x, c, 0, 0, 4);
        Due.same("26: a CLASS is ahead of FACES", x.selected(c, m), own);
    }

    private static void selectedLooksAtParameters() {
        Edits13 x = new Edits13();
        int a = Due.plainClass(x);
        int b = Due.classUnder(x, a);
        int m = x.method(a, 0, a, NONE, 0, 1);
        int n = x.method(b, 0, b, NONE, 0, 2);
        int o = x.method(b, 0, a, a, 0, 3);
        Due.same("26: LIKE it is the one above alone", x.selected(b, m), m);
        Due.same("26: its own", x.selected(b, n), n);
        Due.same("26: nothing above", x.selected(a, n), NONE);
        Due.same("26: two PARAMETERS", x.selected(b, o), o);
    }

    public static void main(String[] args) {
        get();
        getPassesHidden();
        lookForFields();
        lookForMethods();
        call();
        callOfMany();
        callFindsThoseOfFaces();
        callOfHidden();
        callOfHiddenAbove();
        callOfManyHidden();
        make();
        fullOfCallers();
        callerBad();
        selected();
        selectedOfFaces();
        selectedLooksAtParameters();
        Due.end();
    }
}
