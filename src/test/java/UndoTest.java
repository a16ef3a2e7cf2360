/** Part 5 with 14 (undo), 20 (anew), 21 (culprit) and 22 (caller): EDITS in order, taken back, and done again. */
public final class UndoTest {
    private static final int BAD = Due.BAD, NONE = Due.NONE;
    private static final int STATIC = Due.STATIC, FINAL = Due.FINAL, HIDDEN = Due.HIDDEN, ABSTRACT = Due.ABSTRACT;
    private static final int INTS = Houses.INTS, BYTES = Houses.BYTES, LONGS = Houses.LONGS;

    // ---- taken back

    /** "undo() takes the latest one back: all but CALLERS .. is as before it", of each call marked (E). */
    private static void eachEdit() {
        Twins.Making roomy = Houses::roomy;
        Twins.takenBack("2: a CLASS", Houses::small, x -> x.type(false, 1, 3), 3);
        Twins.takenBack("2: a FACE", Houses::small, x -> x.type(true, NONE, 3), 3);
        Twins.takenBack("3: above", roomy, x -> x.above(4, 1), 1);
        Twins.takenBack("3: above, none", roomy, x -> x.above(1, NONE), 1);
        Twins.takenBack("3: above, as it was", roomy, x -> x.above(1, 0), 1);
        Twins.takenBack("4: face", roomy, x -> x.face(1, 5), 2);
        Twins.takenBack("5: unface", roomy, x -> x.unface(1, 0), 0);
        Twins.takenBack("6: marks", roomy, x -> x.marks(0, 3), 0);
        Twins.takenBack("6: marks, as they were", roomy, x -> x.marks(0, 0), 0);
        Twins.takenBack("7: field, where one was dropped", roomy, x -> x.field(0, 9, LONGS, 7, 1L), 4);
        Twins.takenBack("8: method, where one was dropped", roomy, x -> x.method(0, 9, 0, 1, ABSTRACT, 1), 4);
        Twins.takenBack("9: drop the first", roomy, x -> x.drop(0), 1);
        Twins.takenBack("9: drop the last", roomy, x -> x.drop(5), 1);
        Twins.takenBack("10: mark a FIELD", roomy, x -> x.mark(0, 7), 0);
        Twins.takenBack("10: mark a METHOD", roomy, x -> x.mark(2, 8), 0);
        Twins.takenBack("11: set a FIELD", roomy, x -> x.set(0, 99L), 1);
        Twins.takenBack("11: set a METHOD", roomy, x -> x.set(2, 99L), 1);
        Twins.takenBack("12: retype", roomy, x -> x.retype(0, BYTES, 255L), 1);
        Twins.takenBack("13: move a FIELD", roomy, x -> x.move(0, 11), 1);
        Twins.takenBack("13: move a METHOD", roomy, x -> x.move(2, 10), 1);
    }

    /** "A FACE in the middle, taken off and back, stands in the middle". */
    private static void faceInTheMiddle() {
        Twins.Making three = x -> {
            Houses.faces(x);
            x.face(1, 2);
            x.face(1, 3);
            x.face(1, 4);
        };
        for (int i = 0; i < 3; i++) {
            int n = i;
            Twins.takenBack("5: FACE " + i, three, x -> x.unface(1, n), 2);
        }
    }

    /** Refused calls, CALLERS and undo itself are no EDITS: undo takes what is ahead of them. */
    private static void whatIsNoEdit() {
        Edits13 x = new Edits13();
        Houses.small(x);
        Due.same("27: EDITS", x.count(3), 7);
        Due.same("refused", x.set(2, 1L), BAD);
        Due.same("refused", x.above(0, 1), Due.RING);
        Due.same("a CALLER", x.make(0), 1);
        Due.same("asking", x.meet(1, 0), 0);
        Due.same("asking", x.anew(1, 0), 0);
        Due.same("asking", x.culprit(0, 0), 7);
        Due.same("27: EDITS still", x.count(3), 7);
        Due.same("14: set(0, 6) is taken back", x.undo(), 6);
        Due.same("18: 5 again", x.meet(0, 0), 0);
        Due.same("19: 5 again", x.asked(), 5);
        Due.same("14: method() is taken back", x.undo(), 5);
        Due.same("27: one MEMBER", x.count(1), 1);
        Due.same("27: CALLERS stay", x.count(2), 2);
        Due.same("22: and keep what they keep", x.caller(1, 6), 7);
    }

    /** "(which stay, and keep what they keep)": all seven numbers of each sort, with nothing left of the house. */
    private static void callersStay() {
        Edits13 x = new Edits13();
        Houses.roomy(x);
        int[][] due = {{0, 0, 0, NONE, NONE, 0, 22}, {0, 1, 1, NONE, NONE, 1, 22}, {1, 0, 2, NONE, NONE, 0, 22},
            {2, 4, NONE, NONE, NONE, 0, 22}};
        while (x.count(3) > 0) {
            x.undo();
        }
        Due.same("27: no TYPES", x.count(0), 0);
        Due.same("27: no MEMBERS", x.count(1), 0);
        for (int c = 0; c < due.length; c++) {
            for (int what = 0; what < 7; what++) {
                Due.same("22: caller(" + c + ", " + what + ")", x.caller(c, what), due[c][what]);
            }
        }
        Due.same("18: r is no CLASS", x.meet(0, 0), BAD);
        Due.same("19: what was ASKED for last", x.asked(), 6);
    }

    // ---- what is no more

    /** t and PARAMETERS 3 and 4, the last TYPES, go; 0 stays. */
    private static Edits13 named(int parameters) {
        Edits13 x = new Edits13();
        Due.plainClass(x);
        Due.classUnder(x, 0);
        Due.plainClass(x);
        Due.plainFace(x);
        x.method(1, 0, parameters > 0 ? (parameters == 1 ? 3 : 2) : NONE, parameters > 1 ? 3 : NONE, STATIC, 5);
        return x;
    }

    private static void back(Edits13 x, int edits) {
        while (x.count(3) > edits) {
            x.undo();
        }
    }

    /** "CALLERS that name a TYPE, PARAMETERS that are no more MEET: 3 LOST, ahead of all." */
    private static void lost() {
        Edits13 x = named(1);
        Due.same("16: one PARAMETER", x.call(1, 0, 3, NONE), 0);
        back(x, 3);
        x.marks(0, FINAL);
        Due.same("18: the PARAMETER is no more, ahead of BARRED", x.meet(0, 0), Due.LOST);
        Due.same("20: a TYPE named is no more", x.anew(0, 0), NONE);
        Due.plainClass(x);
        Due.same("18: the number again: BARRED", x.meet(0, 0), Due.BARRED);
        Due.same("20: the number again: NO such", x.anew(0, 0), Due.NO_SUCH);
        x = named(2);
        Due.same("16: two PARAMETERS", x.call(1, 0, 2, 3), 0);
        back(x, 3);
        x.marks(0, FINAL);
        Due.same("18: the second one is no more, ahead of BARRED", x.meet(0, 0), Due.LOST);
        Due.same("20: the second one is no more", x.anew(0, 0), NONE);
        back(x, 2);
        Due.same("18: both are no more", x.meet(0, 0), Due.LOST);
        Due.same("20: both are no more", x.anew(0, 0), NONE);
        back(x, 1);
        Due.same("18: t is no more either", x.meet(0, 0), Due.LOST);
        Due.same("20: t is no more either", x.anew(0, 0), NONE);
        back(x, 0);
        Due.same("18: r is no more", x.meet(0, 0), BAD);
        Due.same("20: r is no more", x.anew(0, 0), BAD);
    }

    /** Of each sort of CALLER: t is no more, is there again, and what it names is there again. */
    private static void lostType() {
        Edits13 x = new Edits13();
        Due.plainClass(x);
        Due.plainClass(x);
        x.field(1, 0, INTS, STATIC, 5L);
        x.field(1, 1, INTS, STATIC | FINAL, 6L);
        Due.plainMethod(x, 1, 0, STATIC, 7);
        x.get(1, 0);
        x.get(1, 1);
        x.call(1, 0, NONE, NONE);
        x.make(1);
        back(x, 1);
        for (int c = 0; c < 4; c++) {
            Due.same("18: t is no more, CALLER " + c, x.meet(c, 0), Due.LOST);
            Due.same("20: t is no more, CALLER " + c, x.anew(c, 0), NONE);
        }
        Due.plainClass(x);
        int[] due = {Due.LOST, 0, Due.LOST, 0};
        int[] anew = {Due.NO_SUCH, Due.NO_SUCH, Due.NO_SUCH, 0};
        for (int c = 0; c < 4; c++) {
            Due.same("18: t is there again, CALLER " + c, x.meet(c, 0), due[c]);
            Due.same("20: t is there again, CALLER " + c, x.anew(c, 0), anew[c]);
        }
        x.field(1, 0, INTS, STATIC, 15L);
        x.field(1, 1, INTS, STATIC | FINAL, 16L);
        Due.plainMethod(x, 1, 0, STATIC, 17);
        long[] met = {15, 6, 17, 1};
        long[] metAnew = {15, 16, 17, 1};
        for (int c = 0; c < 4; c++) {
            Due.same("18: all is there again, CALLER " + c, x.meet(c, 0), 0);
            Due.same("19: all is there again, CALLER " + c, x.asked(), met[c]);
            Due.same("20: all is there again, CALLER " + c, x.anew(c, 0), 0);
            Due.same("19: anew, CALLER " + c, x.asked(), metAnew[c]);
        }
    }

    /** 20: "as it was made (with the same TYPES named)": arguments, which meet() does not look at. */
    private static void argumentIsNoMore() {
        Edits13 x = new Edits13();
        Due.plainClass(x);
        x.method(0, 0, 0, NONE, STATIC, 5);
        x.method(0, 1, 0, 0, STATIC, 6);
        Due.classUnder(x, 0);
        Due.same("16", x.call(0, 0, 1, NONE), 0);
        Due.same("16", x.call(0, 1, 1, 0), 1);
        Due.same("16", x.call(0, 1, 0, 1), 2);
        Due.same("14", x.undo(), 3);
        for (int c = 0; c < 3; c++) {
            Due.same("18: its PARAMETERS are there, " + c, x.meet(c, 0), 0);
            Due.same("20: an argument is no more, " + c, x.anew(c, 0), NONE);
        }
        Due.same("2: its number again, not BELOW", x.type(true, NONE, 0), 1);
        for (int c = 0; c < 3; c++) {
            Due.same("18: its PARAMETERS are there, " + c, x.meet(c, 0), 0);
            Due.same("20: the argument does not FIT any more, " + c, x.anew(c, 0), Due.NO_SUCH);
        }
    }

    // ---- 21: culprit

    /** "the first EDIT behind those that there were when the CALLER was made": the next one, one between, the last one. */
    private static void culpritByPlace() {
        for (int place = 3; place <= 120; place += 39) {
            Edits13 x = new Edits13();
            Due.plainClass(x);
            x.field(0, 0, INTS, 0, 5L);
            x.get(0, 0);
            for (int edit = 3; edit <= 120; edit++) {
                x.set(0, edit < place ? 5L : 5L + edit);
            }
            Due.same("21: place " + place, x.culprit(0, 0), place);
            Due.same("21: nothing was changed by it", x.meet(0, 0), 0);
            Due.same("21: nothing was changed by it", x.asked(), 125);
            Due.same("27: 120", x.count(3), 120);
            back(x, place);
            Due.same("21: it is the last one", x.culprit(0, 0), place);
            back(x, place - 1);
            Due.same("21: it is taken back", x.culprit(0, 0), 0);
        }
    }

    /** "NONE: fewer EDITS are there than when it was made": just as many are not fewer. */
    private static void fewerEdits() {
        Edits13 x = new Edits13();
        Due.plainClass(x);
        x.marks(0, 2);
        x.make(0);
        Due.same("22: made behind two", x.caller(0, 6), 2);
        Due.same("21: as many", x.culprit(0, 0), 0);
        Due.same("14", x.undo(), 1);
        Due.same("21: one fewer", x.culprit(0, 0), NONE);
        Due.same("21: it changed nothing", x.told(0, 2), 0);
        x.marks(0, 1);
        Due.same("21: as many, others", x.culprit(0, 0), 0);
        Due.same("18: though it MEETS another thing than when it was made", x.meet(0, 0), Due.UNMADE);
        x.marks(0, 1);
        Due.same("21: the same as behind that many", x.culprit(0, 0), 0);
        x.marks(0, 0);
        Due.same("21: another than behind that many", x.culprit(0, 0), 4);
        Due.same("21: fewer, but r is no CLASS", x.culprit(0, 1), BAD);
    }

    /** "also r was no CLASS then": made by the last of those EDITS it was one, by the next one it was not. */
    private static void rThen() {
        Edits13 x = new Edits13();
        Due.plainClass(x);
        Due.plainClass(x);
        x.make(0);
        Due.plainClass(x);
        Due.same("21: the last one then", x.culprit(0, 1), 0);
        Due.same("21: the first one behind", x.culprit(0, 2), BAD);
        x.marks(0, 1);
        Due.same("21: the last one then", x.culprit(0, 1), 4);
        Due.same("21: the first one behind", x.culprit(0, 2), BAD);
        Due.same("21: it changed nothing", x.count(0), 3);
        back(x, 1);
        x.type(true, NONE, 0);
        Due.same("21: r is a FACE now", x.culprit(0, 1), BAD);
        back(x, 1);
        x.marks(0, 0);
        Due.plainClass(x);
        Due.same("21: with EDITS done again it was none then", x.culprit(0, 1), BAD);
        Due.same("21: r is no more", x.culprit(0, 2), BAD);
        Twins.refused("21: nothing changes", UndoTest::lateClass, y -> y.culprit(0, 1), BAD);
        Twins.refused("21: nothing changes", UndoTest::fewer, y -> y.culprit(0, 0), NONE);
    }

    private static void lateClass(Edits13 x) {
        Due.plainClass(x);
        x.make(0);
        Due.plainClass(x);
        x.marks(0, 1);
        x.marks(1, 2);
    }

    private static void fewer(Edits13 x) {
        Due.plainClass(x);
        x.field(0, 0, INTS, 0, 5L);
        x.get(0, 0);
        x.undo();
    }

    /** EDITS are done again in thought alone: behind every answer of culprit all is as it was. */
    private static void culpritChangesNothing() {
        Twins.changesNothing("21: 0, none", Houses::roomy, x -> x.culprit(3, 4), 0);
        Twins.changesNothing("21: 0, no EDIT behind it", UndoTest::madeLast, x -> x.culprit(0, 0), 0);
        Twins.changesNothing("21: the last EDIT", Houses::roomy, x -> x.culprit(0, 0), 23);
        Twins.changesNothing("21: one between", UndoTest::between, x -> x.culprit(0, 0), 4);
    }

    private static void madeLast(Edits13 x) {
        Due.plainClass(x);
        x.field(0, 0, INTS, 0, 5L);
        x.get(0, 0);
    }

    private static void between(Edits13 x) {
        madeLast(x);
        x.marks(0, 2);
        x.set(0, 6L);
        Due.classUnder(x, 0);
        x.drop(0);
        Due.plainMethod(x, 1, 0, FINAL, 8);
    }

    /** What only asks changes nothing: all but EDITS, undo, CALLERS that are made, and what is ASKED for. */
    private static void askingChangesNothing() {
        Twins.changesNothing("18: a FAILURE", Houses::roomy, x -> x.meet(0, 4), Due.UNLIKE);
        Twins.changesNothing("20: a FAILURE", Houses::roomy, x -> x.anew(0, 4), Due.UNLIKE);
        Twins.changesNothing("19: asked", Houses::roomy, x -> x.asked(), 6);
        Twins.changesNothing("18: what was ASKED for already", Houses::roomy, x -> x.meet(0, 0), 0);
        Twins.changesNothing("20: what was ASKED for already", Houses::roomy, x -> x.anew(0, 0), 0);
        Twins.changesNothing("22: caller", Houses::roomy, x -> x.caller(3, 1), 4);
        Twins.changesNothing("23: told", Houses::roomy, x -> x.told(1, 1), 0);
        Twins.changesNothing("24: below", Houses::roomy, x -> x.below(1, 3), 1);
        Twins.changesNothing("25: member", Houses::roomy, x -> x.member(5, 4), LONGS);
        Twins.changesNothing("26: selected", Houses::roomy, x -> x.selected(1, 2), 2);
        Twins.changesNothing("27: count", Houses::roomy, x -> x.count(3), 23);
        Twins.changesNothing("28: digest", UndoTest::nothingMade, x -> x.digest(), 527);
    }

    private static void nothingMade(Edits13 x) {
        // A new object is as it is.
    }

    /** "another FAILURE, or something else": from one FAILURE to another, to what is met and back. */
    private static void culpritOfEachChange() {
        Edits13 x = new Edits13();
        Due.plainClass(x);
        Due.classUnder(x, 0);
        x.field(0, 0, INTS, 0, 5L);
        x.field(0, 1, INTS, STATIC | FINAL, 6L);
        Due.plainMethod(x, 0, 0, 0, 0);
        x.get(1, 0);
        x.get(1, 1);
        x.call(1, 0, NONE, NONE);
        x.make(1);
        x.set(1, 7L);
        Due.plainMethod(x, 1, 0, 0, 0);
        Due.same("21: by another METHOD the same value is no change", x.culprit(2, 1), 0);
        x.marks(1, 2);
        x.mark(2, ABSTRACT);
        Due.same("21: what r does not reach is no change", x.culprit(2, 1), 0);
        x.retype(0, BYTES, 5L);
        Due.same("21: another KIND with the same value is no change", x.culprit(0, 1), 0);
        x.retype(0, LONGS, 5L);
        Due.same("21: CAST", x.culprit(0, 1), 11);
        x.drop(3);
        Due.same("21: EMPTY: a value of 0 is another thing than a FAILURE", x.culprit(2, 1), 12);
        x.marks(0, 2);
        Due.same("21: BARRED", x.culprit(3, 1), 13);
        Due.same("21: what is kept never changes", x.culprit(1, 1), 0);
        Due.same("21: the first one stays", x.culprit(0, 1), 11);
        Due.same("21: the first one stays", x.culprit(2, 1), 12);
        x.marks(0, 0);
        Due.same("21: the first one stays, though it is as it was", x.culprit(3, 1), 13);
    }

    /** From a FAILURE on: that it becomes another one, or something. */
    private static void culpritFromAFailure() {
        Edits13 x = new Edits13();
        Due.plainClass(x);
        Due.plainClass(x);
        x.field(0, 0, INTS, 0, 0L);
        x.get(0, 0);
        Due.same("18: UNLIKE", x.meet(0, 1), Due.UNLIKE);
        x.set(0, 1L);
        Due.same("21: UNLIKE still", x.culprit(0, 1), 0);
        x.mark(0, HIDDEN);
        Due.same("21: another FAILURE", x.culprit(0, 1), 5);
        Due.same("21: on the other r the value was changed ahead of it", x.culprit(0, 0), 4);
        back(x, 4);
        x.set(0, 0L);
        x.above(1, 0);
        Due.same("21: something, the value of which is 0", x.culprit(0, 1), 6);
    }

    /** 19: "What was ASKED for last": by meet() and anew() that answered 0 alone. */
    private static void asked() {
        Edits13 x = new Edits13();
        Due.same("19: before", x.asked(), 0);
        Due.plainClass(x);
        x.field(0, 0, LONGS, 0, Long.MIN_VALUE);
        x.get(0, 0);
        Due.same("19: a CALLER that is made ASKS for nothing", x.asked(), 0);
        Due.same("18", x.meet(0, 0), 0);
        Due.same("19: the least", x.asked(), Long.MIN_VALUE);
        Due.same("19: again", x.asked(), Long.MIN_VALUE);
        x.set(0, Long.MAX_VALUE);
        Due.same("19: an EDIT changes nothing", x.asked(), Long.MIN_VALUE);
        Due.same("20", x.anew(0, 0), 0);
        Due.same("19: the greatest", x.asked(), Long.MAX_VALUE);
        Due.same("21", x.culprit(0, 0), 3);
        Due.same("19: culprit ASKS for nothing", x.asked(), Long.MAX_VALUE);
        x.mark(0, HIDDEN);
        Due.same("18", x.meet(0, 0), Due.CLOSED);
        Due.same("19: a FAILURE ASKS for nothing", x.asked(), Long.MAX_VALUE);
        Due.same("20", x.anew(0, 0), Due.NO_SUCH);
        Due.same("19: a FAULT ASKS for nothing", x.asked(), Long.MAX_VALUE);
        back(x, 2);
        Due.same("19: undo changes nothing", x.asked(), Long.MAX_VALUE);
        x.set(0, 0L);
        Due.same("18", x.meet(0, 0), 0);
        Due.same("19: 0 is ASKED for too", x.asked(), 0);
    }

    public static void main(String[] args) {
        eachEdit();
        faceInTheMiddle();
        whatIsNoEdit();
        callersStay();
        lost();
        lostType();
        argumentIsNoMore();
        culpritByPlace();
        fewerEdits();
        rThen();
        culpritChangesNothing();
        askingChangesNothing();
        culpritOfEachChange();
        culpritFromAFailure();
        asked();
        Due.end();
    }
}
