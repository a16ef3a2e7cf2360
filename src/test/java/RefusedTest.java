/**
 * "Refused, and nothing changes, is: BAD -1 a number is not as told": of every number that a call takes the first and
 * the last one of its range, and those beside them; behind each refused call all later answers are as without it.
 */
public final class RefusedTest {
    private static final int BAD = Due.BAD, NONE = Due.NONE;
    private static final int STATIC = Due.STATIC;
    private static final int LEAST = Integer.MIN_VALUE, GREATEST = Integer.MAX_VALUE;

    /** 32 and 64 are what shifts take for 0. */
    private static final int[] NO_TYPES = {-1, -3, 12, 13, 32, 64, LEAST, GREATEST};
    private static final int[] NO_MEMBERS = {-1, NONE, -3, 4, 6, 59, 60, 61, LEAST, GREATEST};
    private static final int[] NO_NAMES = {-1, NONE, 10, 11, LEAST, GREATEST};
    private static final int[] NO_KINDS = {-1, NONE, 8, 9, 32, LEAST, GREATEST};
    private static final int[] NO_CALLERS = {-1, NONE, 4, 23, 24, LEAST, GREATEST};

    interface WithNumber {
        long of(Edits13 x, int number);
    }

    private static void bad(String call, int[] numbers, WithNumber with) {
        for (int n : numbers) {
            Twins.refused(call + " where n is " + n, Houses::roomy, x -> with.of(x, n), BAD);
        }
    }

    private static void badType(String call, WithNumber with) {
        bad(call, NO_TYPES, with);
        int[] beside = {3, 4, 11};
        for (int n : beside) {
            Twins.refused(call + " of three TYPES where n is " + n, Houses::small, x -> with.of(x, n), BAD);
        }
    }

    private static void badTypeOrNone(String call, WithNumber with) {
        badType(call, with);
        bad(call, new int[] {NONE}, with);
    }

    private static void badFace(String call, WithNumber with) {
        bad(call + ", FACES", new int[] {2, 3, 5, 10}, with);
    }

    private static void badClass(String call, WithNumber with) {
        bad(call + ", CLASSES", new int[] {0, 1, 4, 11}, with);
    }

    private static void taken(String call, Twins.Making making, int[] numbers, WithNumber with) {
        for (int n : numbers) {
            Edits13 x = new Edits13();
            making.on(x);
            long answer = with.of(x, n);
            Due.same(call + " where n is " + n + " answered " + answer + ": is it taken", answer >= 0 ? 1 : 0, 1);
        }
    }

    private static void takenType(String call, WithNumber with) {
        taken(call, Houses::roomy, new int[] {0, 11}, with);
    }

    private static void typesOfTypes() {
        badType("2: type(false, n, 0)", (x, n) -> x.type(false, n, 0));
        badFace("2: type(false, n, 0)", (x, n) -> x.type(false, n, 0));
        badType("2: type(true, n, 0)", (x, n) -> x.type(true, n, 0));
        badFace("2: type(true, n, 0)", (x, n) -> x.type(true, n, 0));
        badClass("2: type(true, n, 0)", (x, n) -> x.type(true, n, 0));
        badTypeOrNone("3: above(n, 0)", (x, n) -> x.above(n, 0));
        badFace("3: above(n, 0)", (x, n) -> x.above(n, 0));
        badFace("3: above(n, NONE)", (x, n) -> x.above(n, NONE));
        badFace("3: above(n, n), BAD is ahead of RING", (x, n) -> x.above(n, n));
        badType("3: above(1, n)", (x, n) -> x.above(1, n));
        badFace("3: above(1, n)", (x, n) -> x.above(1, n));
        badTypeOrNone("4: face(n, 2)", (x, n) -> x.face(n, 2));
        badTypeOrNone("4: face(0, n)", (x, n) -> x.face(0, n));
        badClass("4: face(1, n)", (x, n) -> x.face(1, n));
        badClass("4: face(n, n), BAD is ahead of RING", (x, n) -> x.face(n, n));
        badTypeOrNone("5: unface(n, 0)", (x, n) -> x.unface(n, 0));
        badTypeOrNone("6: marks(n, 1)", (x, n) -> x.marks(n, 1));
        takenType("3: above(n, 4)", (x, n) -> x.above(n, 4));
        takenType("3: above(4, n)", (x, n) -> x.above(4, n));
        takenType("4: face(n, 2)", (x, n) -> x.face(n, 2));
        taken("4: face(1, n)", Houses::faces, new int[] {0, 11}, (x, n) -> x.face(1, n));
        taken("4: face(n, 5)", Houses::faces, new int[] {0, 11}, (x, n) -> x.face(n, 5));
        takenType("5: unface(n, 0)", (x, n) -> x.unface(n, 0));
        takenType("6: marks(n, 1)", (x, n) -> x.marks(n, 1));
        taken("2: type(false, n, 0)", RefusedTest::elevenClasses, new int[] {0, 10}, (x, n) -> x.type(false, n, 0));
    }

    private static void elevenClasses(Edits13 x) {
        for (int t = 0; t < 11; t++) {
            Due.plainClass(x);
        }
    }

    private static void typesOfMembers() {
        badTypeOrNone("7: field(n, 9, 4, 1, 0)", (x, n) -> x.field(n, 9, 4, STATIC, 0L));
        badTypeOrNone("8: method(n, 9, NONE, NONE, 0, 0)", (x, n) -> x.method(n, 9, NONE, NONE, 0, 0));
        badType("8: method(0, 9, n, NONE, 0, 0)", (x, n) -> x.method(0, 9, n, NONE, 0, 0));
        badType("8: method(0, 9, n, 0, 0, 0)", (x, n) -> x.method(0, 9, n, 0, 0, 0));
        badType("8: method(0, 9, 0, n, 0, 0)", (x, n) -> x.method(0, 9, 0, n, 0, 0));
        badTypeOrNone("13: move(0, n)", (x, n) -> x.move(0, n));
        badTypeOrNone("13: move(1, n)", (x, n) -> x.move(1, n));
        takenType("7: field(n, 9, 4, 0, 0)", (x, n) -> x.field(n, 9, 4, 0, 0L));
        takenType("8: method(n, 9, NONE, NONE, 0, 0)", (x, n) -> x.method(n, 9, NONE, NONE, 0, 0));
        takenType("8: method(0, 9, n, NONE, 0, 0)", (x, n) -> x.method(0, 9, n, NONE, 0, 0));
        takenType("8: method(0, 9, n, n, 0, 0)", (x, n) -> x.method(0, 9, n, n, 0, 0));
        takenType("13: move(5, n)", (x, n) -> x.move(5, n));
    }

    private static void typesOfCallers() {
        badTypeOrNone("15: get(n, 0)", (x, n) -> x.get(n, 0));
        badTypeOrNone("16: call(n, 2, NONE, NONE)", (x, n) -> x.call(n, 2, NONE, NONE));
        badType("16: call(0, 2, n, NONE)", (x, n) -> x.call(0, 2, n, NONE));
        badType("16: call(0, 2, n, 0)", (x, n) -> x.call(0, 2, n, 0));
        badType("16: call(0, 2, 0, n)", (x, n) -> x.call(0, 2, 0, n));
        badTypeOrNone("17: make(n)", (x, n) -> x.make(n));
        badTypeOrNone("18: meet(0, n)", (x, n) -> x.meet(0, n));
        badFace("18: meet(0, n)", (x, n) -> x.meet(0, n));
        badTypeOrNone("20: anew(0, n)", (x, n) -> x.anew(0, n));
        badFace("20: anew(0, n)", (x, n) -> x.anew(0, n));
        badTypeOrNone("21: culprit(0, n)", (x, n) -> x.culprit(0, n));
        badFace("21: culprit(0, n)", (x, n) -> x.culprit(0, n));
        // r is looked at always: also where what the CALLER MEETS is kept, or is NEW.
        bad("18: meet(1, n) of what is kept", new int[] {-1, NONE, 2, 12}, (x, n) -> x.meet(1, n));
        bad("18: meet(3, n) of NEW", new int[] {-1, NONE, 2, 12}, (x, n) -> x.meet(3, n));
        bad("20: anew(1, n) of what is kept", new int[] {-1, NONE, 2, 12}, (x, n) -> x.anew(1, n));
        bad("20: anew(3, n) of NEW", new int[] {-1, NONE, 2, 12}, (x, n) -> x.anew(3, n));
        bad("21: culprit(1, n) of what is kept", new int[] {-1, NONE, 2, 12}, (x, n) -> x.culprit(1, n));
        bad("21: culprit(3, n) of NEW", new int[] {-1, NONE, 2, 12}, (x, n) -> x.culprit(3, n));
        takenType("17: make(n)", (x, n) -> x.make(n));
        takenType("18: meet(3, n)", (x, n) -> x.meet(3, n));
        takenType("20: anew(3, n)", (x, n) -> x.anew(3, n));
        takenType("21: culprit(3, n)", (x, n) -> x.culprit(3, n));
        taken("15: get(n, 9)", RefusedTest::endsWithMembers, new int[] {0, 11}, (x, n) -> x.get(n, 9));
        taken("16: call(n, 9, n, n)", RefusedTest::endsWithMembers, new int[] {0, 11}, (x, n) -> x.call(n, 9, n, n));
        taken("16: call(n, 8, n, NONE)", RefusedTest::endsWithMembers, new int[] {0, 11}, (x, n) -> x.call(n, 8, n, NONE));
    }

    private static void endsWithMembers(Edits13 x) {
        Houses.roomy(x);
        for (int t = 0; t < 12; t += 11) {
            x.field(t, 9, Houses.INTS, 0, 0L);
            x.method(t, 9, t, t, 0, 0);
            x.method(t, 8, t, NONE, 0, 0);
        }
    }

    private static void typesOfWhatThereIs() {
        badTypeOrNone("23: told(n, 0)", (x, n) -> x.told(n, 0));
        badTypeOrNone("24: below(n, 0)", (x, n) -> x.below(n, 0));
        badTypeOrNone("24: below(0, n)", (x, n) -> x.below(0, n));
        badTypeOrNone("24: below(n, n)", (x, n) -> x.below(n, n));
        badTypeOrNone("26: selected(n, 2)", (x, n) -> x.selected(n, 2));
        badFace("26: selected(n, 2)", (x, n) -> x.selected(n, 2));
        takenType("23: told(n, 0)", (x, n) -> x.told(n, 0));
        takenType("24: below(n, 4)", (x, n) -> x.below(n, 4));
        takenType("24: below(4, n)", (x, n) -> x.below(4, n));
        Edits13 x = new Edits13();
        Houses.roomy(x);
        Due.same("26: selected(11, 2): nothing, but a CLASS", x.selected(11, 2), NONE);
    }

    private static void members() {
        bad("9: drop(n)", NO_MEMBERS, (x, n) -> x.drop(n));
        bad("10: mark(n, 1)", NO_MEMBERS, (x, n) -> x.mark(n, STATIC));
        bad("11: set(n, 1)", NO_MEMBERS, (x, n) -> x.set(n, 1L));
        bad("12: retype(n, 4, 1)", NO_MEMBERS, (x, n) -> x.retype(n, Houses.INTS, 1L));
        bad("12: retype(n, 4, 1) of a METHOD", new int[] {2, 3}, (x, n) -> x.retype(n, Houses.INTS, 1L));
        bad("13: move(n, 6)", NO_MEMBERS, (x, n) -> x.move(n, 6));
        bad("25: member(n, 0)", NO_MEMBERS, (x, n) -> x.member(n, 0));
        bad("26: selected(0, n)", NO_MEMBERS, (x, n) -> x.selected(0, n));
        bad("26: selected(0, n) of a FIELD", new int[] {0, 1, 5}, (x, n) -> x.selected(0, n));
        int[] ends = {0, 59};
        taken("9: drop(n)", Houses::fullOfFieldsFirst, ends, (x, n) -> x.drop(n));
        taken("10: mark(n, 1)", Houses::fullOfFieldsFirst, ends, (x, n) -> x.mark(n, STATIC));
        taken("11: set(n, 1)", Houses::fullOfFieldsFirst, ends, (x, n) -> x.set(n, 1L));
        taken("13: move(n, 11)", Houses::fullOfFieldsFirst, ends, (x, n) -> x.move(n, 11));
        taken("25: member(n, 0)", Houses::fullOfFieldsFirst, ends, (x, n) -> x.member(n, 0));
        taken("12: retype(0, 4, 1)", Houses::fullOfFieldsFirst, new int[] {0}, (x, n) -> x.retype(n, Houses.INTS, 1L));
        taken("12: retype(59, 4, 1)", Houses::fullOfMethodsFirst, new int[] {59}, (x, n) -> x.retype(n, Houses.INTS, 1L));
        taken("26: selected(0, 0)", Houses::fullOfMethodsFirst, new int[] {0}, (x, n) -> x.selected(0, n));
        taken("26: selected(5, 59)", Houses::fullOfFieldsFirst, new int[] {59}, (x, n) -> x.selected(5, n));
    }

    private static void namesAndKinds() {
        bad("7: field(4, n, 4, 0, 0)", NO_NAMES, (x, n) -> x.field(4, n, Houses.INTS, 0, 0L));
        bad("8: method(4, n, NONE, NONE, 0, 0)", NO_NAMES, (x, n) -> x.method(4, n, NONE, NONE, 0, 0));
        bad("15: get(4, n)", NO_NAMES, (x, n) -> x.get(4, n));
        bad("16: call(4, n, NONE, NONE)", NO_NAMES, (x, n) -> x.call(4, n, NONE, NONE));
        bad("7: field(4, 9, n, 0, 0)", NO_KINDS, (x, n) -> x.field(4, 9, n, 0, 0L));
        bad("12: retype(0, n, 0)", NO_KINDS, (x, n) -> x.retype(0, n, 0L));
        int[] names = {0, 1, 8, 9};
        taken("7: field(11, n, 4, 0, 0)", Houses::roomy, names, (x, n) -> x.field(11, n, Houses.INTS, 0, 0L));
        taken("8: method(11, n, NONE, NONE, 0, 0)", Houses::roomy, names, (x, n) -> x.method(11, n, NONE, NONE, 0, 0));
        taken("15: get(11, n)", RefusedTest::eachName, names, (x, n) -> x.get(11, n));
        taken("16: call(11, n, NONE, NONE)", RefusedTest::eachName, names, (x, n) -> x.call(11, n, NONE, NONE));
        int[] kinds = {0, 1, 2, 3, 4, 5, 6, 7};
        taken("7: field(11, 9, n, 0, 0)", Houses::roomy, kinds, (x, n) -> x.field(11, 9, n, 0, 0L));
        taken("12: retype(0, n, 0)", Houses::roomy, kinds, (x, n) -> x.retype(0, n, 0L));
    }

    private static void eachName(Edits13 x) {
        Houses.roomy(x);
        for (int n = 0; n <= 9; n++) {
            x.field(11, n, Houses.INTS, 0, 0L);
            Due.plainMethod(x, 11, n, 0, 0);
        }
    }

    private static void marks() {
        int[] noTypeMarks = {-1, -2, 4, 5, 8, LEAST, GREATEST};
        bad("6: marks(0, n)", noTypeMarks, (x, n) -> x.marks(0, n));
        bad("6: marks(2, n) of a FACE", noTypeMarks, (x, n) -> x.marks(2, n));
        bad("2: type(false, NONE, n)", noTypeMarks, (x, n) -> x.type(false, NONE, n));
        bad("2: type(true, NONE, n)", noTypeMarks, (x, n) -> x.type(true, NONE, n));
        int[] typeMarks = {0, 1, 2, 3};
        taken("6: marks(0, n)", Houses::roomy, typeMarks, (x, n) -> x.marks(0, n));
        taken("6: marks(2, n) of a FACE", Houses::roomy, typeMarks, (x, n) -> x.marks(2, n));
        taken("2: type(false, NONE, n)", Houses::small, typeMarks, (x, n) -> x.type(false, NONE, n));
        taken("2: type(true, NONE, n)", Houses::small, typeMarks, (x, n) -> x.type(true, NONE, n));
        int[] noFieldMarks = {-1, -8, 8, 9, 15, 16, LEAST, GREATEST};
        bad("7: field(4, 9, 4, n, 0)", noFieldMarks, (x, n) -> x.field(4, 9, Houses.INTS, n, 0L));
        bad("10: mark(0, n) of a FIELD", noFieldMarks, (x, n) -> x.mark(0, n));
        int[] fieldMarks = {0, 1, 2, 3, 4, 5, 6, 7};
        taken("7: field(4, 9, 4, n, 0)", Houses::roomy, fieldMarks, (x, n) -> x.field(4, 9, Houses.INTS, n, 0L));
        taken("10: mark(0, n) of a FIELD", Houses::roomy, fieldMarks, (x, n) -> x.mark(0, n));
        int[] noMethodMarks = {-1, -8, 9, 10, 11, 12, 13, 14, 15, 16, 17, 24, LEAST, LEAST + 8, GREATEST};
        bad("8: method(4, 9, NONE, NONE, n, 0)", noMethodMarks, (x, n) -> x.method(4, 9, NONE, NONE, n, 0));
        bad("10: mark(2, n) of a METHOD", noMethodMarks, (x, n) -> x.mark(2, n));
        int[] methodMarks = {0, 1, 2, 3, 4, 5, 6, 7, 8};
        taken("8: method(4, 9, NONE, NONE, n, 0)", Houses::roomy, methodMarks, (x, n) -> x.method(4, 9, NONE, NONE, n, 0));
        taken("8: method(2, 9, NONE, NONE, n, 0)", Houses::roomy, methodMarks, (x, n) -> x.method(2, 9, NONE, NONE, n, 0));
        taken("10: mark(2, n) of a METHOD", Houses::roomy, methodMarks, (x, n) -> x.mark(2, n));
    }

    /** "a FACE's one is not STATIC", "a FACE gets a FIELD that is not STATIC". */
    private static void fieldsOfFaces() {
        int[] notStatic = {0, 2, 4, 6};
        bad("7: field(3, 9, 4, n, 0)", notStatic, (x, n) -> x.field(3, 9, Houses.INTS, n, 0L));
        bad("10: mark(1, n)", notStatic, (x, n) -> x.mark(1, n));
        int[] isStatic = {1, 3, 5, 7};
        taken("7: field(3, 9, 4, n, 0)", Houses::roomy, isStatic, (x, n) -> x.field(3, 9, Houses.INTS, n, 0L));
        taken("10: mark(1, n)", Houses::roomy, isStatic, (x, n) -> x.mark(1, n));
        for (int marks = 0; marks < 8; marks++) {
            int m = marks;
            Twins.Making making = x -> {
                Houses.small(x);
                x.mark(0, m);
            };
            if (marks % 2 == 0) {
                Twins.refused("13: MARKS " + m + " to a FACE", making, x -> x.move(0, 2), BAD);
            } else {
                taken("13: MARKS " + m + " to a FACE", making, new int[] {0}, (x, n) -> x.move(0, 2));
            }
        }
        bad("13: a METHOD goes to FACES, but not its own", new int[] {0}, (x, n) -> x.move(2, n));
        taken("13: a METHOD goes to FACES", Houses::roomy, new int[] {2, 3, 10}, (x, n) -> x.move(2, n));
    }

    private static void callers() {
        bad("18: meet(n, 0)", NO_CALLERS, (x, n) -> x.meet(n, 0));
        bad("20: anew(n, 0)", NO_CALLERS, (x, n) -> x.anew(n, 0));
        bad("21: culprit(n, 0)", NO_CALLERS, (x, n) -> x.culprit(n, 0));
        bad("22: caller(n, 0)", NO_CALLERS, (x, n) -> x.caller(n, 0));
        Twins.refused("22: no CALLER 24 of 24", Houses::fullOfFieldsFirst, x -> x.caller(24, 0), BAD);
        Twins.refused("18: no CALLER 24 of 24", Houses::fullOfFieldsFirst, x -> x.meet(24, 0), BAD);
        int[] ends = {0, 23};
        taken("18: meet(n, 0)", Houses::fullOfFieldsFirst, ends, (x, n) -> x.meet(n, 0));
        taken("20: anew(n, 0)", Houses::fullOfFieldsFirst, ends, (x, n) -> x.anew(n, 0));
        taken("21: culprit(n, 0)", Houses::fullOfFieldsFirst, ends, (x, n) -> x.culprit(n, 0));
        taken("22: caller(n, 0)", Houses::fullOfFieldsFirst, ends, (x, n) -> x.caller(n, 0));
    }

    private static void whats() {
        bad("22: caller(0, n)", new int[] {-1, NONE, 7, 8, LEAST, GREATEST}, (x, n) -> x.caller(0, n));
        bad("23: told(0, n)", new int[] {-1, NONE, 7, 8, LEAST, GREATEST}, (x, n) -> x.told(0, n));
        bad("25: member(0, n)", new int[] {-1, NONE, 6, 7, LEAST, GREATEST}, (x, n) -> x.member(0, n));
        bad("25: member(2, n) of a METHOD", new int[] {-1, NONE, 6, 7, LEAST, GREATEST}, (x, n) -> x.member(2, n));
        bad("27: count(n)", new int[] {-1, NONE, 4, 5, LEAST, GREATEST}, (x, n) -> x.count(n));
        bad("5: unface(0, n)", new int[] {-1, NONE, 1, 2, 3, 4, LEAST, GREATEST}, (x, n) -> x.unface(0, n));
        bad("5: unface(4, n) of one that has none", new int[] {-1, 0, 1}, (x, n) -> x.unface(4, n));
    }

    public static void main(String[] args) {
        typesOfTypes();
        typesOfMembers();
        typesOfCallers();
        typesOfWhatThereIs();
        members();
        namesAndKinds();
        marks();
        fieldsOfFaces();
        callers();
        whats();
        Due.end();
    }
}
