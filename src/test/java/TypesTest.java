/** Promises 1 to 6, 23 and 24: a new object, TYPES, and what is told of them. */
public final class TypesTest {
    private static final int BAD = Due.BAD, NONE = Due.NONE, FULL = Due.FULL, RING = Due.RING;

    private static void newObject() {
        Edits13 x = new Edits13();
        for (int what = 0; what < 4; what++) {
            Due.same("1: count(" + what + ") of a new object", x.count(what), 0);
        }
        Due.same("1: asked()", x.asked(), 0);
        Due.same("1: digest()", x.digest(), 17 * 31);
        Due.same("1: undo()", x.undo(), NONE);
        Due.same("1: told(0, 0)", x.told(0, 0), BAD);
        Due.same("1: caller(0, 0)", x.caller(0, 0), BAD);
        Due.same("1: meet(0, 0)", x.meet(0, 0), BAD);
    }

    private static void type() {
        Edits13 x = new Edits13();
        Due.same("2: MARKS -1", x.type(false, NONE, -1), BAD);
        Due.same("2: MARKS 4", x.type(false, NONE, 4), BAD);
        Due.same("2: MARKS 4 of a FACE", x.type(true, NONE, 4), BAD);
        Due.same("2: above itself to be", x.type(false, 0, 0), BAD);
        Due.same("2: above -1", x.type(false, -1, 0), BAD);
        Due.same("2: above -3", x.type(false, -3, 0), BAD);
        Due.same("2: nothing was made", x.count(0), 0);
        Due.same("2: no EDIT was made", x.count(3), 0);
        Due.same("2: a CLASS", x.type(false, NONE, 3), 0);
        Due.same("2: a FACE", x.type(true, NONE, 3), 1);
        Due.same("2: a FACE under a CLASS", x.type(true, 0, 0), BAD);
        Due.same("2: a FACE under a FACE", x.type(true, 1, 0), BAD);
        Due.same("2: a CLASS under a FACE", x.type(false, 1, 0), BAD);
        Due.same("2: a CLASS under one that is not", x.type(false, 2, 0), BAD);
        Due.same("2: a CLASS under a CLASS", x.type(false, 0, 1), 2);
        for (int t = 3; t < 12; t++) {
            Due.same("2: TYPE " + t, x.type(t % 2 == 0, NONE, 0), t);
        }
        Due.same("2: a thirteenth", x.type(false, NONE, 0), FULL);
        Due.same("2: BAD is ahead of FULL", x.type(false, 12, 0), BAD);
        Due.same("2: twelve", x.count(0), 12);
        Due.same("2: twelve EDITS", x.count(3), 12);
        Due.same("2: undo", x.undo(), 11);
        Due.same("2: the number again", x.type(true, NONE, 2), 11);
        Due.same("2: which is another one now", x.told(11, 0), 1);
    }

    private static void above() {
        Edits13 x = new Edits13();
        int a = Due.plainClass(x);
        int b = Due.classUnder(x, a);
        int c = Due.classUnder(x, b);
        int f = Due.plainFace(x);
        int d = Due.plainClass(x);
        Due.same("3: of no TYPE", x.above(5, a), BAD);
        Due.same("3: of -1", x.above(-1, a), BAD);
        Due.same("3: of a FACE", x.above(f, a), BAD);
        Due.same("3: of a FACE, none", x.above(f, NONE), BAD);
        Due.same("3: a FACE above", x.above(a, f), BAD);
        Due.same("3: no TYPE above", x.above(a, 5), BAD);
        Due.same("3: -1 above", x.above(a, -1), BAD);
        Due.same("3: itself", x.above(a, a), RING);
        Due.same("3: one under it", x.above(a, b), RING);
        Due.same("3: one far under it", x.above(a, c), RING);
        Due.same("3: nothing was changed", x.count(3), 5);
        Due.same("3: another one", x.above(a, d), 1);
        Due.same("3: told", x.told(a, 1), d);
        Due.same("3: by which c is BELOW d", x.below(c, d), 1);
        Due.same("3: and d is in the round", x.above(d, c), RING);
        Due.same("3: none", x.above(b, NONE), 1);
        Due.same("3: none is told", x.told(b, 1), NONE);
        Due.same("3: c is no more BELOW d", x.below(c, d), 0);
        Due.same("3: so that d may be put under c", x.above(d, c), 1);
        Due.same("3: the same one again is an EDIT", x.above(d, c), 1);
        Due.same("3: all EDITS", x.count(3), 9);
    }

    private static void face() {
        Edits13 x = new Edits13();
        int f = Due.plainFace(x);
        int g = Due.plainFace(x);
        int h = Due.plainFace(x);
        int i = Due.plainFace(x);
        int c = Due.plainClass(x);
        Due.same("4: of no TYPE", x.face(5, f), BAD);
        Due.same("4: no FACE", x.face(c, 5), BAD);
        Due.same("4: NONE", x.face(c, NONE), BAD);
        Due.same("4: a CLASS", x.face(f, c), BAD);
        Due.same("4: a CLASS of itself", x.face(c, c), BAD);
        Due.same("4: of itself", x.face(f, f), RING);
        Due.same("4: one", x.face(f, g), 1);
        Due.same("4: round", x.face(g, f), RING);
        Due.same("4: one more", x.face(g, h), 1);
        Due.same("4: far round", x.face(h, f), RING);
        Due.same("4: which it has", x.face(f, g), BAD);
        Due.same("4: which it has by another one only", x.face(f, h), 2);
        Due.same("4: three", x.face(f, i), 3);
        int k = Due.plainFace(x);
        Due.same("4: four", x.face(f, k), BAD);
        Due.same("4: three, ahead of RING", x.face(f, f), BAD);
        Due.same("4: of a CLASS", x.face(c, i), 1);
        Due.same("4: as the last one", x.face(c, f), 2);
        Due.same("4: the first", x.told(c, 4), i);
        Due.same("4: the second", x.told(c, 5), f);
        Due.same("4: the third", x.told(c, 6), NONE);
    }

    private static void unface() {
        Edits13 x = new Edits13();
        int c = Due.plainClass(x);
        int f = Due.plainFace(x);
        int g = Due.plainFace(x);
        int h = Due.plainFace(x);
        Due.same("5: of none", x.unface(c, 0), BAD);
        x.face(c, f);
        x.face(c, g);
        x.face(c, h);
        Due.same("5: no TYPE", x.unface(4, 0), BAD);
        Due.same("5: -1", x.unface(c, -1), BAD);
        Due.same("5: 3", x.unface(c, 3), BAD);
        Due.same("5: the first", x.unface(c, 0), 2);
        Due.same("5: no more BELOW it", x.below(c, f), 0);
        Due.same("5: the others move up", x.told(c, 4), g);
        Due.same("5: the others move up", x.told(c, 5), h);
        Due.same("5: none at the end", x.told(c, 6), NONE);
        Due.same("5: 2 is no more", x.unface(c, 2), BAD);
        Due.same("5: the last", x.unface(c, 1), 1);
        Due.same("5: the only one", x.unface(c, 0), 0);
        Due.same("5: how many", x.told(c, 3), 0);
        Due.same("5: undo", x.undo(), 9);
        Due.same("5: it is there again", x.told(c, 4), g);
        x.undo();
        x.undo();
        Due.same("5: all are there again in order", x.told(c, 4), f);
        Due.same("5: all are there again in order", x.told(c, 6), h);
    }

    private static void marks() {
        Edits13 x = new Edits13();
        x.type(false, NONE, 1);
        Due.same("6: no TYPE", x.marks(1, 0), BAD);
        Due.same("6: no TYPE", x.marks(-1, 0), BAD);
        Due.same("6: -1", x.marks(0, -1), BAD);
        Due.same("6: 4", x.marks(0, 4), BAD);
        Due.same("6: what they were", x.marks(0, 3), 1);
        Due.same("6: what they became", x.told(0, 2), 3);
        Due.same("6: again", x.marks(0, 0), 3);
        Due.same("6: the same is an EDIT", x.marks(0, 0), 0);
        Due.same("6: EDITS", x.count(3), 4);
    }

    private static void fullOfEdits() {
        Edits13 x = new Edits13();
        int a = Due.plainClass(x);
        int b = Due.classUnder(x, a);
        int f = Due.plainFace(x);
        int g = Due.plainFace(x);
        x.face(a, f);
        Due.fillEdits(x, a);
        long before = x.digest();
        Due.same("EDITS: type", x.type(false, NONE, 0), FULL);
        Due.same("EDITS: type, BAD", x.type(false, 4, 0), BAD);
        Due.same("EDITS: above", x.above(b, NONE), FULL);
        Due.same("EDITS: above, BAD", x.above(b, 9), BAD);
        Due.same("EDITS: above, RING is ahead", x.above(a, b), RING);
        Due.same("EDITS: face", x.face(a, g), FULL);
        Due.same("EDITS: face, BAD", x.face(a, f), BAD);
        Due.same("EDITS: face, RING is ahead", x.face(f, f), RING);
        Due.same("EDITS: unface", x.unface(a, 0), FULL);
        Due.same("EDITS: unface, BAD", x.unface(a, 1), BAD);
        Due.same("EDITS: marks", x.marks(a, 1), FULL);
        Due.same("EDITS: marks, BAD", x.marks(a, 4), BAD);
        Due.same("EDITS: nothing changed", x.digest(), before);
        Due.same("EDITS: undo", x.undo(), 119);
        Due.same("EDITS: the 120th", x.unface(a, 0), 0);
        Due.same("EDITS: 120", x.count(3), 120);
    }

    private static void told() {
        Edits13 x = new Edits13();
        int a = x.type(false, NONE, 2);
        int f = x.type(true, NONE, 1);
        int b = x.type(false, a, 3);
        int g = Due.plainFace(x);
        x.face(b, g);
        x.face(b, f);
        int[] due = {0, a, 3, 2, g, f, NONE};
        for (int what = 0; what < 7; what++) {
            Due.same("23: " + what, x.told(b, what), due[what]);
        }
        int[] ofFace = {1, NONE, 1, 0, NONE, NONE, NONE};
        for (int what = 0; what < 7; what++) {
            Due.same("23: of a FACE " + what, x.told(f, what), ofFace[what]);
        }
        Due.same("23: none above", x.told(a, 1), NONE);
        Due.same("23: what -1", x.told(b, -1), BAD);
        Due.same("23: what 7", x.told(b, 7), BAD);
        Due.same("23: no TYPE", x.told(4, 0), BAD);
        Due.same("23: TYPE -1", x.told(-1, 0), BAD);
        Due.same("23: TYPE 12", x.told(12, 0), BAD);
    }

    private static void below() {
        Edits13 x = new Edits13();
        int a = Due.plainClass(x);
        int b = Due.classUnder(x, a);
        int f = Due.plainFace(x);
        int g = Due.plainFace(x);
        Due.same("24: itself", x.below(b, b), 1);
        Due.same("24: what is above", x.below(b, a), 1);
        Due.same("24: not the other way", x.below(a, b), 0);
        x.face(a, f);
        x.face(f, g);
        Due.same("24: a FACE of what is above", x.below(b, f), 1);
        Due.same("24: a FACE of such a FACE", x.below(b, g), 1);
        Due.same("24: a FACE of a FACE", x.below(f, g), 1);
        Due.same("24: a FACE is not BELOW a CLASS", x.below(g, a), 0);
        Due.same("24: no TYPE", x.below(4, a), BAD);
        Due.same("24: no other", x.below(a, 4), BAD);
        Due.same("24: NONE", x.below(a, NONE), BAD);
        x.undo();
        Due.same("24: taken back", x.below(b, g), 0);
        int last = b;
        for (int t = 4; t < 12; t++) {
            last = Due.classUnder(x, last);
        }
        Due.same("24: a long chain", x.below(11, f), 1);
        Due.same("24: a long chain", x.below(11, a), 1);
        Due.same("24: a long chain the other way", x.below(a, 11), 0);
    }

    private static void longChainBackwards() {
        Edits13 x = new Edits13();
        for (int t = 0; t < 12; t++) {
            Due.plainClass(x);
        }
        for (int t = 0; t < 11; t++) {
            Due.same("24: each under the next", x.above(t, t + 1), 1);
        }
        Due.same("24: the first is BELOW the last", x.below(0, 11), 1);
        Due.same("3: the last under the first", x.above(11, 0), RING);
    }

    public static void main(String[] args) {
        newObject();
        type();
        above();
        face();
        unface();
        marks();
        fullOfEdits();
        told();
        below();
        longChainBackwards();
        Due.end();
    }
}
