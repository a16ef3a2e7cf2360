/** Promises 7 to 14, 25, 27 and 28: MEMBERS, undo, and what is told of them. */
public final class MembersTest {
    private static final int BAD = Due.BAD, NONE = Due.NONE, FULL = Due.FULL;
    private static final int STATIC = Due.STATIC, FINAL = Due.FINAL, HIDDEN = Due.HIDDEN, ABSTRACT = Due.ABSTRACT;

    private static void field() {
        Edits13 x = new Edits13();
        int c = Due.plainClass(x);
        int f = Due.plainFace(x);
        Due.same("7: no TYPE", x.field(2, 0, 0, 0, 0), BAD);
        Due.same("7: TYPE -1", x.field(-1, 0, 0, 0, 0), BAD);
        Due.same("7: NAME -1", x.field(c, -1, 0, 0, 0), BAD);
        Due.same("7: NAME 10", x.field(c, 10, 0, 0, 0), BAD);
        Due.same("7: KIND -1", x.field(c, 0, -1, 0, 0), BAD);
        Due.same("7: KIND 8", x.field(c, 0, 8, 0, 0), BAD);
        Due.same("7: MARKS -1", x.field(c, 0, 0, -1, 0), BAD);
        Due.same("7: MARKS 8", x.field(c, 0, 0, 8, 0), BAD);
        Due.same("7: a FACE's one is not STATIC", x.field(f, 0, 0, FINAL | HIDDEN, 0), BAD);
        Due.same("7: the first", x.field(c, 9, 7, 7, 0), 0);
        Due.same("7: LIKE it", x.field(c, 9, 0, 0, 0), BAD);
        Due.same("7: a FACE's one that is STATIC", x.field(f, 9, 0, STATIC, 0), 1);
        Due.same("7: a METHOD of that NAME is not LIKE it", x.method(c, 9, NONE, NONE, 0, 0), 2);
        Due.same("7: another NAME", x.field(c, 0, 0, 0, 0), 3);
        x.drop(1);
        Due.same("7: the least free one", x.field(c, 1, 0, 0, 0), 1);
        Due.same("7: behind all", x.field(c, 2, 0, 0, 0), 4);
    }

    private static void fullOfMembers() {
        Edits13 x = new Edits13();
        for (int t = 0; t < 6; t++) {
            Due.plainClass(x);
        }
        for (int m = 0; m < 60; m++) {
            Due.same("7: MEMBER " + m, x.field(m % 6, m / 6, 4, 0, m), m);
        }
        Due.plainClass(x);
        Due.same("7: 60", x.field(6, 0, 4, 0, 0), FULL);
        Due.same("7: 60, BAD", x.field(0, 0, 4, 0, 0), BAD);
        Due.same("8: 60", x.method(6, 0, NONE, NONE, 0, 0), FULL);
        Due.same("7, 8: what is FULL is no EDIT", x.count(3), 67);
        Due.same("8: 60, BAD", x.method(7, 0, NONE, NONE, 0, 0), BAD);
        Due.same("27: 60", x.count(1), 60);
        Due.same("9: one is dropped", x.drop(59), 1);
        Due.same("9: it is no MEMBER", x.member(59, 0), BAD);
        Due.same("27: 59", x.count(1), 59);
        Due.same("8: its number again", x.method(6, 0, NONE, NONE, 0, 0), 59);
        Due.same("8: again 60", x.method(6, 1, NONE, NONE, 0, 0), FULL);
        Due.same("25: no MEMBER 60", x.member(60, 0), BAD);
    }

    private static void method() {
        Edits13 x = new Edits13();
        int c = Due.plainClass(x);
        int f = Due.plainFace(x);
        Due.same("8: no TYPE", x.method(2, 0, NONE, NONE, 0, 0), BAD);
        Due.same("8: NAME -1", x.method(c, -1, NONE, NONE, 0, 0), BAD);
        Due.same("8: NAME 10", x.method(c, 10, NONE, NONE, 0, 0), BAD);
        Due.same("8: a no TYPE", x.method(c, 0, 2, NONE, 0, 0), BAD);
        Due.same("8: a -1", x.method(c, 0, -1, NONE, 0, 0), BAD);
        Due.same("8: b no TYPE", x.method(c, 0, c, 2, 0, 0), BAD);
        Due.same("8: b -3", x.method(c, 0, c, -3, 0, 0), BAD);
        Due.same("8: a NONE and b not", x.method(c, 0, NONE, c, 0, 0), BAD);
        Due.same("8: MARKS -1", x.method(c, 0, NONE, NONE, -1, 0), BAD);
        Due.same("8: MARKS 16", x.method(c, 0, NONE, NONE, 16, 0), BAD);
        for (int m = 1; m < 8; m++) {
            Due.same("8: ABSTRACT and " + m, x.method(c, 0, NONE, NONE, ABSTRACT | m, 0), BAD);
        }
        Due.same("8: nothing was made", x.count(1), 0);
        Due.same("8: ABSTRACT", x.method(c, 0, NONE, NONE, ABSTRACT, 0), 0);
        Due.same("8: STATIC, FINAL, HIDDEN", x.method(c, 9, NONE, NONE, 7, 0), 1);
        Due.same("8: LIKE it", x.method(c, 0, NONE, NONE, 0, 0), BAD);
        Due.same("8: one PARAMETER", x.method(c, 0, c, NONE, 0, 0), 2);
        Due.same("8: another PARAMETER", x.method(c, 0, f, NONE, 0, 0), 3);
        Due.same("8: two", x.method(c, 0, c, f, 0, 0), 4);
        Due.same("8: the other way round", x.method(c, 0, f, c, 0, 0), 5);
        Due.same("8: LIKE that", x.method(c, 0, f, c, STATIC, 0), BAD);
        Due.same("8: of another TYPE", x.method(f, 0, f, c, 0, 0), 6);
        Due.same("8: HIDDEN of a FACE", x.method(f, 1, NONE, NONE, HIDDEN, 0), 7);
    }

    private static void drop() {
        Edits13 x = new Edits13();
        int c = Due.plainClass(x);
        Due.same("9: none", x.drop(0), BAD);
        x.field(c, 0, 4, 0, 5);
        Due.same("9: -1", x.drop(-1), BAD);
        Due.same("9: 1", x.drop(1), BAD);
        Due.same("9: 60", x.drop(60), BAD);
        Due.same("9: it", x.drop(0), 1);
        Due.same("9: again", x.drop(0), BAD);
        Due.same("9: undo", x.undo(), 2);
        Due.same("9: it is there again", x.member(0, 4), 4);
    }

    private static void mark() {
        Edits13 x = new Edits13();
        int c = Due.plainClass(x);
        int f = Due.plainFace(x);
        int a = x.field(c, 0, 4, 5, 5);
        int b = x.field(f, 0, 4, STATIC, 5);
        int m = x.method(f, 0, NONE, NONE, 3, 5);
        Due.same("10: no MEMBER", x.mark(3, 0), BAD);
        Due.same("10: MEMBER -1", x.mark(-1, 0), BAD);
        Due.same("10: a FIELD -1", x.mark(a, -1), BAD);
        Due.same("10: a FIELD 8", x.mark(a, 8), BAD);
        Due.same("10: a FACE's FIELD", x.mark(b, FINAL), BAD);
        Due.same("10: a METHOD 9", x.mark(m, 9), BAD);
        Due.same("10: a METHOD 16", x.mark(m, 16), BAD);
        Due.same("10: a METHOD -1", x.mark(m, -1), BAD);
        Due.same("10: EDITS", x.count(3), 5);
        Due.same("10: what they were", x.mark(a, 7), 5);
        Due.same("10: what they became", x.member(a, 3), 7);
        Due.same("10: a FACE's FIELD, STATIC", x.mark(b, 7), STATIC);
        Due.same("10: a METHOD 8", x.mark(m, 8), 3);
        Due.same("10: a METHOD 7", x.mark(m, 7), 8);
        Due.same("10: undo", x.undo(), 8);
        Due.same("10: as before", x.member(m, 3), 8);
    }

    /** What a CALLER that is made now MEETS as the value of a FIELD or METHOD of CLASS 0. */
    private static long valueBy(Edits13 x, int caller) {
        return x.meet(caller, 0) == 0 ? x.asked() : -999;
    }

    private static void set() {
        Edits13 x = new Edits13();
        int c = Due.plainClass(x);
        int m = Due.plainMethod(x, c, 0, 0, 7);
        int caller = x.call(c, 0, NONE, NONE);
        Due.same("11: no MEMBER", x.set(1, 0), BAD);
        Due.same("11: MEMBER -1", x.set(-1, 0), BAD);
        Due.same("11: before", valueBy(x, caller), 7);
        Due.same("11: of a METHOD", x.set(m, (5L << 32) + 3), 1);
        Due.same("11: its lowest 32 bits", valueBy(x, caller), 3);
        Due.same("11: of a METHOD", x.set(m, 0xFFFFFFFFL), 1);
        Due.same("11: its lowest 32 bits", valueBy(x, caller), -1);
        long[][] all = {
            {0, 256, 1}, {0, 0, 0}, {0, Long.MIN_VALUE, 1}, {1, 300, 44}, {1, 128, -128}, {2, -1, 65535}, {2, 65536, 0},
            {3, 32768, -32768}, {3, 65535, -1}, {4, 1L << 31, Integer.MIN_VALUE}, {4, 1L << 32, 0},
            {5, Long.MIN_VALUE, Long.MIN_VALUE}, {6, 16777217, 16777216}, {6, Long.MAX_VALUE, Long.MAX_VALUE},
            {7, 9007199254740993L, 9007199254740992L}, {7, Long.MIN_VALUE, Long.MIN_VALUE}, {6, -5, -5}, {7, -5, -5}};
        for (long[] one : all) {
            Edits13 y = new Edits13();
            Due.plainClass(y);
            y.field(0, 1, (int) one[0], 0, 0);
            int get = y.get(0, 1);
            Due.same("11: KIND " + one[0], y.set(0, one[1]), 1);
            Due.same("11: KIND " + one[0] + " of " + one[1], valueBy(y, get), one[2]);
            Due.same("28: KIND " + one[0] + " of " + one[1], y.digest(), digestOfOneField((int) one[0], one[2], 3));
        }
    }

    /** The digest, by hand, of a CLASS 0 with a FIELD 0 of NAME 1 and no MARKS. */
    private static long digestOfOneField(int kind, long value, int edits) {
        long[] all = {0, NONE, 0, 0, NONE, NONE, NONE, 0, 0, 0, 1, 0, kind, NONE, value, edits};
        long h = 17;
        for (long v : all) {
            h = 31 * h + v;
        }
        return h;
    }

    private static void retype() {
        Edits13 x = new Edits13();
        int c = Due.plainClass(x);
        int f = x.field(c, 1, 5, 0, 1000);
        int m = Due.plainMethod(x, c, 0, 0, 7);
        int get = x.get(c, 1);
        Due.same("12: no MEMBER", x.retype(2, 0, 0), BAD);
        Due.same("12: a METHOD", x.retype(m, 4, 0), BAD);
        Due.same("12: KIND -1", x.retype(f, -1, 0), BAD);
        Due.same("12: KIND 8", x.retype(f, 8, 0), BAD);
        Due.same("12: a byte", x.retype(f, 1, 511), 1);
        Due.same("12: its KIND", x.member(f, 4), 1);
        Due.same("12: its value", valueBy(x, get), -1);
        Due.same("11: set looks at the new KIND", x.set(f, 256 + 5), 1);
        Due.same("11: set looks at the new KIND", valueBy(x, get), 5);
        Due.same("12: the same KIND", x.retype(f, 1, 6), 1);
        x.undo();
        x.undo();
        x.undo();
        Due.same("12: as before", x.member(f, 4), 5);
        Due.same("12: as before", valueBy(x, get), 1000);
    }

    private static void move() {
        Edits13 x = new Edits13();
        int a = Due.plainClass(x);
        int b = Due.plainClass(x);
        int f = Due.plainFace(x);
        int n = x.field(a, 0, 4, FINAL, 1);
        int s = x.field(a, 1, 4, STATIC, 1);
        int m = Due.plainMethod(x, a, 0, 0, 1);
        int l = Due.plainMethod(x, b, 0, 0, 2);
        Due.same("13: no MEMBER", x.move(4, b), BAD);
        Due.same("13: MEMBER -1", x.move(-1, b), BAD);
        Due.same("13: no TYPE", x.move(n, 3), BAD);
        Due.same("13: NONE", x.move(n, NONE), BAD);
        Due.same("13: its own", x.move(n, a), BAD);
        Due.same("13: a FACE gets one that is not STATIC", x.move(n, f), BAD);
        Due.same("13: that has one LIKE it", x.move(m, b), BAD);
        Due.same("13: EDITS", x.count(3), 7);
        Due.same("13: a FACE gets a STATIC one", x.move(s, f), 1);
        Due.same("13: it has gone", x.member(s, 1), f);
        Due.same("13: a FIELD to a CLASS", x.move(n, b), 1);
        Due.same("13: a METHOD to a FACE", x.move(l, f), 1);
        Due.same("13: now there is none LIKE it", x.move(m, b), 1);
        Due.same("13: its number stays", x.member(m, 1), b);
        Due.same("7: its NAME is free", x.field(a, 0, 4, 0, 1), 4);
        x.undo();
        x.undo();
        Due.same("13: as before", x.member(m, 1), a);
    }

    private static void fullOfEdits() {
        Edits13 x = new Edits13();
        int c = Due.plainClass(x);
        int d = Due.plainClass(x);
        int f = x.field(c, 0, 4, 0, 1);
        Due.fillEdits(x, c);
        long before = x.digest();
        Due.same("EDITS: field", x.field(c, 1, 4, 0, 1), FULL);
        Due.same("EDITS: field, BAD", x.field(c, 0, 4, 0, 1), BAD);
        Due.same("EDITS: method", x.method(c, 1, NONE, NONE, 0, 1), FULL);
        Due.same("EDITS: method, BAD", x.method(c, 1, NONE, c, 0, 1), BAD);
        Due.same("EDITS: drop", x.drop(f), FULL);
        Due.same("EDITS: drop, BAD", x.drop(1), BAD);
        Due.same("EDITS: mark", x.mark(f, 1), FULL);
        Due.same("EDITS: mark, BAD", x.mark(f, 8), BAD);
        Due.same("EDITS: set", x.set(f, 1), FULL);
        Due.same("EDITS: set, BAD", x.set(1, 1), BAD);
        Due.same("EDITS: retype", x.retype(f, 1, 1), FULL);
        Due.same("EDITS: retype, BAD", x.retype(f, 8, 1), BAD);
        Due.same("EDITS: move", x.move(f, d), FULL);
        Due.same("EDITS: move, BAD", x.move(f, c), BAD);
        Due.same("EDITS: nothing changed", x.digest(), before);
    }

    private static void undo() {
        Edits13 x = new Edits13();
        long[] digests = new long[13];
        int n = 0;
        digests[n++] = x.digest();
        x.type(false, NONE, 0);
        digests[n++] = x.digest();
        x.type(false, NONE, 0);
        digests[n++] = x.digest();
        x.type(true, NONE, 0);
        digests[n++] = x.digest();
        x.above(1, 0);
        digests[n++] = x.digest();
        x.face(1, 2);
        digests[n++] = x.digest();
        x.marks(1, 3);
        digests[n++] = x.digest();
        x.field(0, 0, 4, 1, 70000);
        digests[n++] = x.digest();
        x.method(1, 1, 0, 2, 0, 5);
        digests[n++] = x.digest();
        x.retype(0, 1, 70000);
        digests[n++] = x.digest();
        x.move(0, 2);
        digests[n++] = x.digest();
        x.drop(1);
        digests[n++] = x.digest();
        x.unface(1, 0);
        digests[n++] = x.digest();
        for (int left = 11; left >= 0; left--) {
            Due.same("14: how many there are", x.undo(), left);
            Due.same("14: all is as before", x.digest(), digests[left]);
            Due.same("14: EDITS", x.count(3), left);
        }
        Due.same("14: there is none", x.undo(), NONE);
        Due.same("14: nothing changed", x.digest(), digests[0]);
    }

    private static void undoLeavesCallers() {
        Edits13 x = new Edits13();
        Due.plainClass(x);
        int f = x.field(0, 0, 4, 0, 1);
        int get = x.get(0, 0);
        x.set(f, 2);
        Due.same("14: MET", valueBy(x, get), 2);
        Due.same("14: undo", x.undo(), 2);
        Due.same("14: what was ASKED for last stays", x.asked(), 2);
        Due.same("14: CALLERS stay", x.count(2), 1);
        Due.same("14: and MEET what there was", valueBy(x, get), 1);
        Due.same("14: refused EDITS are none", x.set(9, 3), BAD);
        Due.same("14: the FIELD is taken back", x.undo(), 1);
        Due.same("14: LOST", x.meet(get, 0), Due.LOST);
        Due.same("14: the number again", Due.plainMethod(x, 0, 0, 0, 4), f);
        Due.same("14: LOST still", x.meet(get, 0), Due.LOST);
        Due.same("14: a FIELD again", x.field(0, 0, 4, 0, 6), 1);
        Due.same("14: is MET", valueBy(x, get), 6);
    }

    private static void member() {
        Edits13 x = new Edits13();
        int a = Due.plainClass(x);
        int b = Due.plainClass(x);
        x.field(b, 3, 6, 5, 1);
        x.method(a, 4, b, NONE, 2, 1);
        x.method(b, 5, b, a, 8, 1);
        x.method(b, 6, NONE, NONE, 0, 1);
        int[][] due = {{0, b, 3, 5, 6, NONE}, {1, a, 4, 2, b, NONE}, {1, b, 5, 8, b, a}, {1, b, 6, 0, NONE, NONE}};
        for (int m = 0; m < due.length; m++) {
            for (int what = 0; what < 6; what++) {
                Due.same("25: member(" + m + ", " + what + ")", x.member(m, what), due[m][what]);
            }
        }
        Due.same("25: what -1", x.member(0, -1), BAD);
        Due.same("25: what 6", x.member(0, 6), BAD);
        Due.same("25: no MEMBER", x.member(4, 0), BAD);
        Due.same("25: MEMBER -1", x.member(-1, 0), BAD);
    }

    private static void count() {
        Edits13 x = new Edits13();
        Due.plainClass(x);
        Due.plainClass(x);
        x.field(0, 0, 4, 0, 1);
        x.field(0, 1, 4, 0, 1);
        x.field(0, 2, 4, 0, 1);
        x.make(0);
        x.set(0, 1);
        Due.same("27: TYPES", x.count(0), 2);
        Due.same("27: MEMBERS", x.count(1), 3);
        Due.same("27: CALLERS", x.count(2), 1);
        Due.same("27: EDITS", x.count(3), 6);
        Due.same("27: -1", x.count(-1), BAD);
        Due.same("27: 4", x.count(4), BAD);
    }

    private static void digest() {
        Edits13 x = new Edits13();
        x.type(true, NONE, 1);
        x.type(false, NONE, 2);
        x.face(1, 0);
        x.field(0, 2, 0, 3, 77);
        x.field(1, 3, 4, 0, 5);
        x.method(1, 4, 0, NONE, 8, -9);
        x.drop(1);
        long[] all = {1, NONE, 1, 0, NONE, NONE, NONE, 0, NONE, 2, 1, 0, NONE, NONE,
            0, 0, 0, 2, 3, 0, NONE, 1, 2, 1, 1, 4, 8, 0, NONE, -9, 7};
        long h = 17;
        for (long v : all) {
            h = 31 * h + v;
        }
        Due.same("28: by hand", x.digest(), h);
        x.make(1);
        Due.same("28: CALLERS do not count", x.digest(), h);
    }

    public static void main(String[] args) {
        field();
        fullOfMembers();
        method();
        drop();
        mark();
        set();
        retype();
        move();
        fullOfEdits();
        undo();
        undoLeavesCallers();
        member();
        count();
        digest();
        Due.end();
    }
}
