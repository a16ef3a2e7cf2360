/**
 * Two objects that the same calls were made on. One of them gets a call more, which is refused, or is taken back: as
 * all is as before it, both must answer the same ever after.
 */
final class Twins {
    interface Making {
        void on(Edits13 x);
    }

    interface Asking {
        long of(Edits13 x);
    }

    private Twins() {
    }

    static void refused(String what, Making making, Asking call, long due) {
        changesNothing(what, making, call, due);
    }

    /** The making may take some 200 calls: what is asked here behind it stays below 300. */
    static void changesNothing(String what, Making making, Asking call, long due) {
        Edits13 x = new Edits13();
        Edits13 twin = new Edits13();
        making.on(x);
        making.on(twin);
        Due.same(what, call.of(x), due);
        sameEverAfter(what + ", nothing changes", x, twin);
    }

    /** One of them gets an EDIT more, which is taken back: all but CALLERS is as before it. */
    static void takenBack(String what, Making making, Asking edit, long due) {
        Edits13 x = new Edits13();
        Edits13 twin = new Edits13();
        making.on(x);
        making.on(twin);
        int before = twin.count(3);
        Due.same(what, edit.of(x), due);
        Due.same(what + ", an EDIT more", x.count(3), before + 1);
        Due.same(what + ", taken back", x.undo(), before);
        sameEverAfter(what + ", taken back", x, twin);
    }

    private static void sameEverAfter(String what, Edits13 x, Edits13 twin) {
        same(what, x, twin, Edits13::asked);
        for (int i = 0; i < 4; i++) {
            int kind = i;
            same(what + ": count " + i, x, twin, y -> y.count(kind));
        }
        same(what + ": digest", x, twin, Edits13::digest);
        int last = twin.count(2) - 1;
        sameCaller(what, x, twin, 0);
        sameCaller(what, x, twin, last);
        same(what + ": a TYPE more", x, twin, y -> y.type(false, -2, 0));
        same(what + ": a MEMBER more", x, twin, y -> y.field(0, 9, 4, 1, 3L));
        same(what + ": a CALLER more", x, twin, y -> y.get(0, 9));
        for (int left = twin.count(3); left >= 0; left--) {
            same(what + ": undo, " + left, x, twin, Edits13::undo);
            same(what + ": digest behind undo, " + left, x, twin, Edits13::digest);
        }
    }

    private static void sameCaller(String what, Edits13 x, Edits13 twin, int caller) {
        for (int i = 0; i < 7; i++) {
            int kind = i;
            same(what + ": caller " + caller + ", " + i, x, twin, y -> y.caller(caller, kind));
        }
        same(what + ": meet " + caller, x, twin, y -> y.meet(caller, 0));
        same(what + ": what it MEETS", x, twin, Edits13::asked);
        same(what + ": anew " + caller, x, twin, y -> y.anew(caller, 0));
        same(what + ": what it MEETS anew", x, twin, Edits13::asked);
        same(what + ": culprit " + caller, x, twin, y -> y.culprit(caller, 0));
    }

    private static void same(String what, Edits13 x, Edits13 twin, Asking question) {
        Due.same(what, question.of(x), question.of(twin));
    }
}
