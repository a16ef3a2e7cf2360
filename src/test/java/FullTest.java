/**
 * What is empty and what is full: TYPES, FACES, MEMBERS, CALLERS, EDITS; the call that is refused there and changes
 * nothing; and of several refusals the first (BAD, NONE, FULL, RING, FAULTS, FAILURES; FULL of EDITS is behind RING).
 */
public final class FullTest {
    private static final int BAD = Due.BAD, NONE = Due.NONE, FULL = Due.FULL, RING = Due.RING;
    private static final int STATIC = Due.STATIC, FINAL = Due.FINAL, HIDDEN = Due.HIDDEN;
    private static final int INTS = Houses.INTS;

    private static void nothing(Edits13 x) {
        // A new object is as it is.
    }

    /** 1: "No TYPES, no CALLERS": every call that names one is BAD, and undo has nothing. */
    private static void empty() {
        Twins.refused("1: above", FullTest::nothing, x -> x.above(0, NONE), BAD);
        Twins.refused("1: face", FullTest::nothing, x -> x.face(0, 0), BAD);
        Twins.refused("1: unface", FullTest::nothing, x -> x.unface(0, 0), BAD);
        Twins.refused("1: marks", FullTest::nothing, x -> x.marks(0, 0), BAD);
        Twins.refused("1: field", FullTest::nothing, x -> x.field(0, 0, 0, 0, 0L), BAD);
        Twins.refused("1: method", FullTest::nothing, x -> x.method(0, 0, NONE, NONE, 0, 0), BAD);
        Twins.refused("1: drop", FullTest::nothing, x -> x.drop(0), BAD);
        Twins.refused("1: mark", FullTest::nothing, x -> x.mark(0, 0), BAD);
        Twins.refused("1: set", FullTest::nothing, x -> x.set(0, 0L), BAD);
        Twins.refused("1: retype", FullTest::nothing, x -> x.retype(0, 0, 0L), BAD);
        Twins.refused("1: move", FullTest::nothing, x -> x.move(0, 0), BAD);
        Twins.refused("14: undo", FullTest::nothing, x -> x.undo(), NONE);
        Twins.refused("1: get", FullTest::nothing, x -> x.get(0, 0), BAD);
        Twins.refused("1: call", FullTest::nothing, x -> x.call(0, 0, NONE, NONE), BAD);
        Twins.refused("1: make", FullTest::nothing, x -> x.make(0), BAD);
        Twins.refused("1: meet", FullTest::nothing, x -> x.meet(0, 0), BAD);
        Twins.refused("1: anew", FullTest::nothing, x -> x.anew(0, 0), BAD);
        Twins.refused("1: culprit", FullTest::nothing, x -> x.culprit(0, 0), BAD);
        Twins.refused("1: caller", FullTest::nothing, x -> x.caller(0, 0), BAD);
        Twins.refused("1: told", FullTest::nothing, x -> x.told(0, 0), BAD);
        Twins.refused("1: below", FullTest::nothing, x -> x.below(0, 0), BAD);
        Twins.refused("1: member", FullTest::nothing, x -> x.member(0, 0), BAD);
        Twins.refused("1: selected", FullTest::nothing, x -> x.selected(0, 0), BAD);
        Twins.refused("19: asked, 0 before", FullTest::nothing, x -> x.asked(), 0);
        Twins.refused("28: digest of nothing", FullTest::nothing, x -> x.digest(), 31 * 17);
    }

    private static void twelveClasses(Edits13 x) {
        for (int t = 0; t < 12; t++) {
            Due.plainClass(x);
        }
    }

    /** 2: "FULL: 12". */
    private static void types() {
        Edits13 x = new Edits13();
        for (int t = 0; t < 12; t++) {
            Due.same("2: TYPE " + t + " is there room for", Due.plainClass(x), t);
        }
        Twins.refused("2: a 13th CLASS", FullTest::twelveClasses, y -> y.type(false, NONE, 0), FULL);
        Twins.refused("2: a 13th CLASS, under the last", FullTest::twelveClasses, y -> y.type(false, 11, 3), FULL);
        Twins.refused("2: a 13th FACE", FullTest::twelveClasses, y -> y.type(true, NONE, 0), FULL);
        Twins.refused("2: BAD is ahead of FULL: MARKS", FullTest::twelveClasses, y -> y.type(false, NONE, 4), BAD);
        Twins.refused("2: BAD is ahead of FULL: above", FullTest::twelveClasses, y -> y.type(false, 12, 0), BAD);
        Twins.refused("2: BAD is ahead of FULL: a FACE", FullTest::twelveClasses, y -> y.type(true, 0, 0), BAD);
        Due.same("2: undo makes room", x.undo(), 11);
        Due.same("2: for one", x.type(true, NONE, 0), 11);
        Due.same("2: and no more", x.type(true, NONE, 0), FULL);
    }

    private static void threeFaces(Edits13 x) {
        Houses.faces(x);
        x.face(1, 2);
        x.face(1, 3);
        x.face(1, 4);
        x.face(5, 2);
        x.face(5, 3);
        x.face(5, 4);
    }

    /** 4: "how many. BAD: also it has it, or three; RING". */
    private static void faces() {
        Edits13 x = new Edits13();
        Houses.faces(x);
        for (int n = 1; n <= 3; n++) {
            Due.same("4: of a CLASS, FACE " + n, x.face(1, n + 1), n);
            Due.same("4: of a FACE, FACE " + n, x.face(5, n + 1), n);
            Due.same("23: as the last one, " + n, x.told(1, 3 + n), n + 1);
            Due.same("23: how many, " + n, x.told(1, 3), n);
        }
        Twins.refused("4: a fourth of a CLASS", FullTest::threeFaces, y -> y.face(1, 11), BAD);
        Twins.refused("4: a fourth of a FACE", FullTest::threeFaces, y -> y.face(5, 11), BAD);
        Twins.refused("4: BAD, three, is ahead of RING", FullTest::threeFaces, y -> y.face(5, 5), BAD);
        Twins.Making two = y -> {
            Houses.faces(y);
            y.face(1, 2);
            y.face(1, 3);
        };
        Twins.refused("4: it has it, as the first one", two, y -> y.face(1, 2), BAD);
        Twins.refused("4: it has it, as the last one", two, y -> y.face(1, 3), BAD);
        Due.same("5: one less", x.unface(1, 0), 2);
        Due.same("4: there is room again, as the last one", x.face(1, 11), 3);
        Due.same("4: told", x.told(1, 6), 11);
        Due.same("4: and no more", x.face(1, 2), BAD);
    }

    /** The last TYPE with the most FACES. */
    private static void facesOfTheLastType() {
        Edits13 x = new Edits13();
        Houses.faces(x);
        for (int n = 1; n <= 3; n++) {
            Due.same("4: of TYPE 11, FACE " + n, x.face(11, n + 1), n);
        }
        Due.same("4: no fourth", x.face(11, 0), BAD);
        Due.same("5: FACE 3 is none", x.unface(11, 3), BAD);
        Due.same("5: the first one goes", x.unface(11, 0), 2);
        Due.same("23: the second one moves up", x.told(11, 4), 3);
        Due.same("23: the third one moves up", x.told(11, 5), 4);
        Due.same("23: none is the third", x.told(11, 6), NONE);
        Due.same("14: undo", x.undo(), 15);
        Due.same("5: the last one goes", x.unface(11, 2), 2);
        Due.same("23: the first one stays", x.told(11, 4), 2);
        Due.same("23: the second one stays", x.told(11, 5), 3);
        Due.same("24: no more BELOW it", x.below(11, 4), 0);
    }

    /** 7: "the least free one", "FULL: 60"; 8: "likewise". */
    private static void members() {
        Edits13 x = new Edits13();
        Houses.full(x, true);
        Due.same("27: sixty", x.count(1), 60);
        Twins.refused("7: a 61st", Houses::fullOfFieldsFirst, y -> y.field(11, 0, INTS, 0, 0L), FULL);
        Twins.refused("8: a 61st", Houses::fullOfFieldsFirst, y -> y.method(11, 0, NONE, NONE, 0, 0), FULL);
        Twins.refused("7: BAD is ahead of FULL: LIKE", Houses::fullOfFieldsFirst, y -> y.field(0, 0, INTS, 0, 0L), BAD);
        Twins.refused("8: BAD is ahead of FULL: LIKE", Houses::fullOfFieldsFirst,
            y -> y.method(5, 9, NONE, NONE, 0, 0), BAD);
        Twins.refused("7: BAD is ahead of FULL: a FACE's", Houses::fullOfFieldsFirst,
            y -> y.field(6, 0, INTS, 0, 0L), BAD);
        Due.same("9: the last one goes", x.drop(59), 1);
        Due.same("9: the first one goes", x.drop(0), 1);
        Due.same("9: one between goes", x.drop(31), 1);
        Due.same("27: 57", x.count(1), 57);
        Due.same("7: the least free one", x.field(11, 0, INTS, 0, 0L), 0);
        Due.same("8: the least free one", x.method(11, 0, NONE, NONE, 0, 0), 31);
        Due.same("7: the least free one", x.field(11, 1, INTS, 0, 0L), 59);
        Due.same("7: FULL again", x.field(11, 2, INTS, 0, 0L), FULL);
        Due.same("14: undo makes room", x.undo() >= 0 ? 1 : 0, 1);
        Due.same("8: its number again", x.method(11, 1, NONE, NONE, 0, 0), 59);
        Due.same("8: FULL again", x.method(11, 2, NONE, NONE, 0, 0), FULL);
    }

    /** 15 to 17: "FULL: 24", behind BAD and ahead of FAULTS. */
    private static void callers() {
        Twins.Making full = Houses::fullOfFieldsFirst;
        Edits13 x = new Edits13();
        Houses.full(x, true);
        Due.same("17: 24", x.count(2), 24);
        Due.same("22: the last one", x.caller(23, 1), 5);
        Twins.refused("15: a 25th", full, y -> y.get(0, 0), FULL);
        Twins.refused("16: a 25th", full, y -> y.call(0, 9, NONE, NONE), FULL);
        Twins.refused("17: a 25th", full, y -> y.make(0), FULL);
        Twins.refused("15: FULL is ahead of NO such", full, y -> y.get(11, 0), FULL);
        Twins.refused("16: FULL is ahead of NO such", full, y -> y.call(11, 0, NONE, NONE), FULL);
        Twins.refused("17: FULL is ahead of HOLLOW", full, y -> y.make(6), FULL);
        Twins.refused("15: BAD is ahead of FULL", full, y -> y.get(0, 10), BAD);
        Twins.refused("16: BAD is ahead of FULL", full, y -> y.call(0, 9, NONE, 0), BAD);
        Twins.refused("17: BAD is ahead of FULL", full, y -> y.make(12), BAD);
        Due.same("14: undo makes no room", x.undo() >= 0 ? 1 : 0, 1);
        Due.same("17: FULL still", x.make(0), FULL);
        Due.same("20: anew needs no room", x.anew(23, 0), 0);
        Due.same("27: 24 still", x.count(2), 24);
    }

    /** 15 to 17: a CALLER that is refused by a FAULT takes no number. */
    private static void callersThatFail() {
        Twins.refused("15: NO such", Houses::roomy, x -> x.get(11, 0), Due.NO_SUCH);
        Twins.refused("16: NO such", Houses::roomy, x -> x.call(11, 0, NONE, NONE), Due.NO_SUCH);
        Twins.refused("17: HOLLOW", Houses::roomy, x -> x.make(2), Due.HOLLOW);
        Twins.Making many = x -> {
            Houses.small(x);
            x.method(0, 5, 0, 1, 0, 1);
            x.method(0, 5, 1, 0, 0, 2);
        };
        Twins.refused("16: MANY", many, x -> x.call(0, 5, 1, 1), Due.MANY);
    }

    /** 5: "EDITS .. 120 at most (FULL, behind BAD and RING)", of each call that is marked (E). */
    private static void edits() {
        Twins.Making full = Houses::fullOfEdits;
        Twins.refused("2: 120", full, x -> x.type(false, NONE, 0), FULL);
        Twins.refused("3: 120", full, x -> x.above(1, NONE), FULL);
        Twins.refused("4: 120", full, x -> x.face(0, 2), FULL);
        Twins.refused("5: 120", full, x -> x.unface(1, 0), FULL);
        Twins.refused("6: 120", full, x -> x.marks(0, 0), FULL);
        Twins.refused("7: 120", full, x -> x.field(0, 1, INTS, 0, 0L), FULL);
        Twins.refused("8: 120", full, x -> x.method(0, 1, NONE, NONE, 0, 0), FULL);
        Twins.refused("9: 120", full, x -> x.drop(0), FULL);
        Twins.refused("10: 120", full, x -> x.mark(0, STATIC), FULL);
        Twins.refused("11: 120", full, x -> x.set(0, 6L), FULL);
        Twins.refused("12: 120", full, x -> x.retype(0, INTS, 6L), FULL);
        Twins.refused("13: 120", full, x -> x.move(0, 1), FULL);
    }

    private static void editsBehindBadAndRing() {
        Twins.Making full = Houses::fullOfEdits;
        Twins.refused("2: BAD is ahead", full, x -> x.type(true, 0, 0), BAD);
        Twins.refused("3: BAD is ahead", full, x -> x.above(2, NONE), BAD);
        Twins.refused("3: RING is ahead", full, x -> x.above(0, 1), RING);
        Twins.refused("3: RING of itself is ahead", full, x -> x.above(0, 0), RING);
        Twins.refused("4: BAD is ahead", full, x -> x.face(1, 2), BAD);
        Twins.refused("4: RING is ahead", full, x -> x.face(2, 2), RING);
        Twins.refused("5: BAD is ahead", full, x -> x.unface(1, 1), BAD);
        Twins.refused("6: BAD is ahead", full, x -> x.marks(0, 4), BAD);
        Twins.refused("7: BAD is ahead", full, x -> x.field(0, 0, INTS, 0, 0L), BAD);
        Twins.refused("8: BAD is ahead", full, x -> x.method(1, 1, NONE, NONE, 0, 0), BAD);
        Twins.refused("9: BAD is ahead", full, x -> x.drop(2), BAD);
        Twins.refused("10: BAD is ahead", full, x -> x.mark(0, 8), BAD);
        Twins.refused("11: BAD is ahead", full, x -> x.set(2, 6L), BAD);
        Twins.refused("12: BAD is ahead", full, x -> x.retype(1, INTS, 6L), BAD);
        Twins.refused("13: BAD is ahead", full, x -> x.move(0, 0), BAD);
    }

    /** 5: the 120th EDIT is one still; what is no EDIT goes on; undo makes room for one. */
    private static void theLastEdit() {
        Edits13 x = new Edits13();
        Houses.fullOfEdits(x);
        Due.same("27: 120", x.count(3), 120);
        Due.same("15: a CALLER is no EDIT", x.get(0, 0), 1);
        Due.same("16: a CALLER is no EDIT", x.call(1, 1, NONE, NONE), 2);
        Due.same("17: a CALLER is no EDIT", x.make(0), 3);
        Due.same("22: made behind 120", x.caller(3, 6), 120);
        Due.same("27: 120 still", x.count(3), 120);
        Due.same("21: behind the last one there is none", x.culprit(3, 0), 0);
        Due.same("14: 119", x.undo(), 119);
        Due.same("21: fewer", x.culprit(3, 0), NONE);
        Due.same("2: the 120th", x.type(false, NONE, 0), 3);
        Due.same("2: no 121st", x.type(false, NONE, 0), FULL);
        Due.same("27: 120 again", x.count(3), 120);
        for (int left = 119; left >= 0; left--) {
            Due.same("14: " + left, x.undo(), left);
        }
        Due.same("14: none", x.undo(), NONE);
        Due.same("14: none still", x.undo(), NONE);
        Due.same("27: no EDITS", x.count(3), 0);
        Due.same("2: from the first one on", x.type(true, NONE, 0), 0);
        Due.same("27: one", x.count(3), 1);
    }

    /** BAD, then NONE, then FAULTS, then FAILURES, of anew and culprit. */
    private static void firstOfSeveral() {
        Twins.Making gone = x -> {
            Houses.small(x);
            x.type(false, NONE, 0);
            x.method(1, 2, 3, NONE, HIDDEN, 1);
            x.mark(2, 0);
            x.call(1, 2, 3, NONE);
            x.undo();
            x.undo();
            x.undo();
        };
        Twins.refused("20: NONE is ahead of FAULTS (NO such)", gone, x -> x.anew(1, 0), NONE);
        Twins.refused("20: BAD, r a FACE, is ahead of NONE", gone, x -> x.anew(1, 2), BAD);
        Twins.refused("20: BAD, r no more, is ahead of NONE", gone, x -> x.anew(1, 3), BAD);
        Twins.refused("21: NONE, fewer EDITS", gone, x -> x.culprit(1, 0), NONE);
        Twins.refused("21: BAD, r a FACE, is ahead of NONE", gone, x -> x.culprit(1, 2), BAD);
        Twins.refused("21: BAD, r no more, is ahead of NONE", gone, x -> x.culprit(1, 3), BAD);
        Twins.refused("18: BAD, r no more, is ahead of LOST", gone, x -> x.meet(1, 3), BAD);
        Twins.refused("18: LOST", gone, x -> x.meet(1, 0), Due.LOST);
        Twins.Making faultAndFailure = x -> {
            Houses.small(x);
            x.get(1, 0);
            x.marks(0, FINAL);
            x.mark(0, HIDDEN);
        };
        Twins.refused("20: FAULTS are ahead of FAILURES", faultAndFailure, x -> x.anew(1, 1), Due.NO_SUCH);
        Twins.refused("18: where meet has the FAILURE", faultAndFailure, x -> x.meet(1, 1), Due.BARRED);
    }

    public static void main(String[] args) {
        empty();
        types();
        faces();
        facesOfTheLastType();
        members();
        callers();
        callersThatFail();
        edits();
        editsBehindBadAndRing();
        theLastEdit();
        firstOfSeveral();
        Due.end();
    }
}
