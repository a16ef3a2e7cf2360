/** Parts 1 to 3 at their edges: BELOW, LIKE, TO LOOK, TO SELECT, and what CALLERS find when they are made. */
public final class LookTest {
    private static final int BAD = Due.BAD, NONE = Due.NONE, RING = Due.RING;
    private static final int STATIC = Due.STATIC, FINAL = Due.FINAL, HIDDEN = Due.HIDDEN, ABSTRACT = Due.ABSTRACT;
    private static final int INTS = Houses.INTS, LONGS = Houses.LONGS;

    // ---- part 1: BELOW, RING

    private static void chainOfClasses(Edits13 x) {
        for (int t = 0; t < 12; t++) {
            x.type(false, t - 1 < 0 ? NONE : t - 1, 0);
        }
    }

    private static void chainOfFaces(Edits13 x) {
        for (int t = 0; t < 12; t++) {
            Due.plainFace(x);
        }
        for (int t = 1; t < 12; t++) {
            x.face(t, t - 1);
        }
    }

    /** 1: "BELOW another one if it is that, or what is above it, or one of its FACES, is BELOW that". */
    private static void belowInChains() {
        Edits13 classes = new Edits13();
        Edits13 faces = new Edits13();
        chainOfClasses(classes);
        chainOfFaces(faces);
        for (int t = 0; t < 12; t++) {
            for (int other = 0; other < 12; other++) {
                int due = other <= t ? 1 : 0;
                Due.same("24: CLASSES " + t + ", " + other, classes.below(t, other), due);
                Due.same("24: FACES " + t + ", " + other, faces.below(t, other), due);
            }
        }
        Twins.refused("3: the longest round", LookTest::chainOfClasses, x -> x.above(0, 11), RING);
        Twins.refused("3: the shortest round", LookTest::chainOfClasses, x -> x.above(0, 1), RING);
        Twins.refused("3: itself", LookTest::chainOfClasses, x -> x.above(11, 11), RING);
        Twins.refused("4: the longest round", LookTest::chainOfFaces, x -> x.face(0, 11), RING);
        Twins.refused("4: the shortest round", LookTest::chainOfFaces, x -> x.face(0, 1), RING);
        Twins.refused("4: itself", LookTest::chainOfFaces, x -> x.face(11, 11), RING);
        Due.same("3: the chain is cut", classes.above(6, NONE), 1);
        Due.same("24: it is cut", classes.below(11, 5), 0);
        Due.same("24: behind the cut it is not", classes.below(11, 6), 1);
        Due.same("3: there is no round any more", classes.above(0, 11), 1);
        Due.same("24: the other way now", classes.below(5, 6), 1);
        Due.same("5: the chain is cut", faces.unface(6, 0), 0);
        Due.same("4: there is no round any more", faces.face(0, 11), 1);
        Due.same("24: the other way now", faces.below(5, 6), 1);
    }

    /** 4: two ways to the same FACE are no round, and one way may go while the other one stays. */
    private static void twoWays() {
        Edits13 x = new Edits13();
        Due.plainClass(x);
        Due.classUnder(x, 0);
        for (int f = 2; f < 6; f++) {
            Due.plainFace(x);
        }
        Due.same("4", x.face(1, 2), 1);
        Due.same("4", x.face(1, 3), 2);
        Due.same("4", x.face(2, 4), 1);
        Due.same("4: a second way", x.face(3, 4), 1);
        Due.same("4: which what is above has", x.face(0, 4), 1);
        Due.same("4: a third way, its own", x.face(1, 4), 3);
        Due.same("5: one way goes", x.unface(1, 2), 2);
        Due.same("24: the others stay", x.below(1, 4), 1);
        Due.same("5: a second one goes", x.unface(2, 0), 0);
        Due.same("5: a third one goes", x.unface(3, 0), 0);
        Due.same("24: one by what is above stays", x.below(1, 4), 1);
        Due.same("3: it goes too", x.above(1, NONE), 1);
        Due.same("24: none stays", x.below(1, 4), 0);
        Due.same("14: undo", x.undo(), 15);
        Due.same("24: it is there again", x.below(1, 4), 1);
    }

    /** A new TYPE that has the number of one that was taken back has nothing of that. */
    private static void numberAgain() {
        Edits13 x = new Edits13();
        Due.plainFace(x);
        Due.plainClass(x);
        Due.classUnder(x, 1);
        x.face(2, 0);
        x.marks(2, 3);
        Due.same("14", x.undo(), 4);
        Due.same("14", x.undo(), 3);
        Due.same("14", x.undo(), 2);
        Due.same("2: the number again", x.type(false, NONE, 0), 2);
        int[] due = {0, NONE, 0, 0, NONE, NONE, NONE};
        for (int what = 0; what < 7; what++) {
            Due.same("23: it is new, " + what, x.told(2, what), due[what]);
        }
        Due.same("24: not BELOW", x.below(2, 0), 0);
        Due.same("24: not BELOW", x.below(2, 1), 0);
        x.undo();
        Due.same("2: a FACE has the number", x.type(true, NONE, 0), 2);
        Due.same("24: BELOW itself", x.below(2, 2), 1);
        Due.same("3: it is no CLASS", x.above(2, NONE), BAD);
    }

    // ---- part 1: LIKE

    private static void likeOnes(Edits13 x) {
        Due.plainClass(x);
        Due.plainClass(x);
        x.field(0, 0, INTS, 0, 1L);
        x.method(0, 1, NONE, NONE, 0, 1);
        x.method(0, 2, 0, NONE, 0, 1);
        x.method(0, 3, 0, 1, 0, 1);
        x.field(1, 0, LONGS, STATIC, 1L);
        x.method(1, 1, NONE, NONE, STATIC, 2);
        x.method(1, 2, 0, NONE, HIDDEN, 2);
        x.method(1, 3, 0, 1, ABSTRACT, 2);
    }

    /** 1: "No TYPE has two MEMBERS that are LIKE": neither KIND, MARKS nor value make them another. */
    private static void like() {
        Twins.Making made = LookTest::likeOnes;
        for (int kind = 0; kind < 8; kind++) {
            int k = kind;
            Twins.refused("7: LIKE, KIND " + k, made, x -> x.field(0, 0, k, k, 7L), BAD);
        }
        for (int marks = 0; marks <= 8; marks++) {
            int m = marks;
            Twins.refused("8: LIKE, no PARAMETER, MARKS " + m, made, x -> x.method(0, 1, NONE, NONE, m, 9), BAD);
            Twins.refused("8: LIKE, one PARAMETER, MARKS " + m, made, x -> x.method(0, 2, 0, NONE, m, 9), BAD);
            Twins.refused("8: LIKE, two PARAMETERS, MARKS " + m, made, x -> x.method(0, 3, 0, 1, m, 9), BAD);
        }
        for (int member = 0; member < 8; member++) {
            int m = member;
            Twins.refused("13: that has one LIKE " + m, made, x -> x.move(m, m < 4 ? 1 : 0), BAD);
            Twins.refused("13: its own, " + m, made, x -> x.move(m, m < 4 ? 0 : 1), BAD);
        }
    }

    private static void notLike() {
        Edits13 x = new Edits13();
        likeOnes(x);
        Due.same("8: a METHOD with a FIELD's NAME", x.method(0, 0, NONE, NONE, 0, 1), 8);
        Due.same("7: a FIELD with a METHOD's NAME", x.field(0, 1, INTS, 0, 1L), 9);
        Due.same("8: another NAME", x.method(0, 4, 0, NONE, 0, 1), 10);
        Due.same("8: a PARAMETER less", x.method(0, 2, NONE, NONE, 0, 1), 11);
        Due.same("8: a PARAMETER more", x.method(0, 2, 0, 0, 0, 1), 12);
        Due.same("8: another PARAMETER", x.method(0, 2, 1, NONE, 0, 1), 13);
        Due.same("8: another second PARAMETER", x.method(0, 3, 0, 0, 0, 1), 14);
        Due.same("8: another first PARAMETER", x.method(0, 3, 1, 1, 0, 1), 15);
        Due.same("8: the other way round", x.method(0, 3, 1, 0, 0, 1), 16);
        Due.same("13: none LIKE that in 1", x.move(13, 1), 1);
        Due.same("13: a METHOD to where a FIELD has its NAME", x.move(8, 1), 1);
        Due.same("9: one goes", x.drop(4), 1);
        Due.same("13: then none is LIKE it", x.move(0, 1), 1);
        Due.same("7: and none is here", x.field(0, 0, INTS, 0, 1L), 4);
        Due.same("14: undo", x.undo(), 23);
        Due.same("14: undo", x.undo(), 22);
        Due.same("7: it is here again", x.field(0, 0, INTS, 0, 1L), BAD);
        Due.same("14: undo of drop", x.undo(), 21);
        Due.same("13: one LIKE it is there again", x.move(0, 1), BAD);
    }

    // ---- part 2: TO LOOK

    /** 0 under 1 under 2; FACES 3 (which has 4) and 5 of 0, 6 of 1, 7 of 2. */
    private static void tree(Edits13 x) {
        Due.plainClass(x);
        Due.plainClass(x);
        Due.plainClass(x);
        for (int f = 3; f < 8; f++) {
            Due.plainFace(x);
        }
        x.above(0, 1);
        x.above(1, 2);
        x.face(0, 3);
        x.face(0, 5);
        x.face(3, 4);
        x.face(1, 6);
        x.face(2, 7);
    }

    private static void metAndAnew(String what, Edits13 x, long due) {
        Due.same(what + ": meet", x.meet(0, 2), 0);
        Due.same(what + ": ASKED", x.asked(), due);
        Due.same(what + ": anew", x.anew(0, 2), 0);
        Due.same(what + ": ASKED anew", x.asked(), due);
    }

    /** 2: "FIELDS: its own; else in its FACES, each in order, so; else in what is above it, so". */
    private static void lookForFields() {
        Edits13 x = new Edits13();
        tree(x);
        for (int t = 0; t < 8; t++) {
            x.field(t, 0, INTS, STATIC, 100 + t);
        }
        Due.same("15: made", x.get(0, 0), 0);
        int[] order = {0, 3, 4, 5, 1, 6, 2, 7};
        for (int t : order) {
            metAndAnew("2: FIELDS, " + t, x, 100 + t);
            x.drop(t);
        }
        Due.same("18: LOST", x.meet(0, 2), Due.LOST);
        Due.same("20: NO such", x.anew(0, 2), Due.NO_SUCH);
    }

    /** 2: "its own; else in what is above it, so; else (found nowhere above) in its FACES: each in order, so". */
    private static void lookForMethods() {
        Edits13 x = new Edits13();
        tree(x);
        for (int t = 0; t < 8; t++) {
            Due.plainMethod(x, t, 0, STATIC, 100 + t);
        }
        Due.same("16: made", x.call(0, 0, NONE, NONE), 0);
        int[] order = {0, 1, 2, 7, 6, 3, 4, 5};
        for (int t : order) {
            metAndAnew("2: METHODS, " + t, x, 100 + t);
            x.drop(t);
        }
        Due.same("18: LOST", x.meet(0, 2), Due.LOST);
        Due.same("20: NO such", x.anew(0, 2), Due.NO_SUCH);
    }

    /** 3: GET, when it is made: "HIDDEN ones are passed over"; 4: when it MEETS, they are not: CLOSED. */
    private static void hiddenFields() {
        Edits13 kept = new Edits13();
        Edits13 x = new Edits13();
        tree(kept);
        tree(x);
        for (int t = 0; t < 8; t++) {
            kept.field(t, 0, INTS, STATIC | FINAL, 100 + t);
            x.field(t, 0, INTS, STATIC, 100 + t);
        }
        kept.get(0, 0);
        x.get(0, 0);
        int[] order = {0, 3, 4, 5, 1, 6, 2};
        int[] next = {3, 4, 5, 1, 6, 2, 7};
        for (int i = 0; i < order.length; i++) {
            kept.mark(order[i], STATIC | FINAL | HIDDEN);
            Due.same("20: passed over, " + order[i], kept.anew(0, 2), 0);
            Due.same("20: ASKED, " + order[i], kept.asked(), 100 + next[i]);
            x.mark(order[i], STATIC | HIDDEN);
            Due.same("18: CLOSED, " + order[i], x.meet(0, 2), Due.CLOSED);
            Due.same("20: made, but CLOSED, " + order[i], x.anew(0, 2), Due.CLOSED);
        }
        kept.mark(7, STATIC | FINAL | HIDDEN);
        x.mark(7, STATIC | HIDDEN);
        Due.same("15: all are HIDDEN: NO such", kept.get(0, 0), Due.NO_SUCH);
        Due.same("20: all are HIDDEN: NO such", x.anew(0, 2), Due.NO_SUCH);
        Due.same("18: kept", kept.meet(0, 2), 0);
        Due.same("19: kept", kept.asked(), 100);
        Due.same("18: CLOSED still", x.meet(0, 2), Due.CLOSED);
    }

    /** The least and the longest way up. */
    private static void lookInChains() {
        Edits13 x = new Edits13();
        chainOfClasses(x);
        x.field(0, 0, INTS, 0, 5L);
        int m = Due.plainMethod(x, 0, 0, 0, 6);
        Due.same("15: from far above", x.get(11, 0), 0);
        Due.same("16: from far above", x.call(11, 0, NONE, NONE), 1);
        Due.same("18: GET", x.meet(0, 11), 0);
        Due.same("19: GET", x.asked(), 5);
        Due.same("18: CALL", x.meet(1, 11), 0);
        Due.same("19: CALL", x.asked(), 6);
        Due.same("26: from far above", x.selected(11, m), m);
        Due.same("18: r must be BELOW t", x.meet(0, 10), Due.UNLIKE);
        Due.same("18: r must be BELOW t", x.meet(1, 10), Due.UNLIKE);
        Due.same("15: what is above does not find what is under it", x.get(0, 1), Due.NO_SUCH);
        x.field(1, 1, INTS, 0, 5L);
        Due.same("15: nor now", x.get(0, 1), Due.NO_SUCH);
        Edits13 y = new Edits13();
        chainOfFaces(y);
        y.field(0, 0, INTS, STATIC, 7L);
        Due.plainMethod(y, 0, 0, STATIC, 8);
        Due.same("15: from a far FACE", y.get(11, 0), 0);
        Due.same("16: from a far FACE", y.call(11, 0, NONE, NONE), 1);
    }

    /** Many ways to the same FACES: what is LOOKED for last is found still. */
    private static void lookByManyWays() {
        Edits13 x = new Edits13();
        Due.plainClass(x);
        Due.classUnder(x, 0);
        for (int f = 2; f < 9; f++) {
            Due.plainFace(x);
        }
        for (int f = 2; f < 5; f++) {
            x.face(1, f);
            x.face(f, 5);
            x.face(f, 6);
            x.face(f, f == 4 ? 8 : 7);
        }
        x.field(0, 0, INTS, STATIC, 5L);
        Due.plainMethod(x, 8, 0, STATIC, 6);
        Due.same("15: FIELDS, above, behind all FACES", x.get(1, 0), 0);
        Due.same("18", x.meet(0, 0), 0);
        Due.same("19", x.asked(), 5);
        Due.same("16: METHODS, the last FACE", x.call(1, 0, NONE, NONE), 1);
        Due.same("18", x.meet(1, 0), 0);
        Due.same("19", x.asked(), 6);
    }

    /** Each CALLER LOOKS in its own t, whichever one LOOKED before it. */
    private static void lookByTurns() {
        Edits13 x = new Edits13();
        tree(x);
        for (int t = 0; t < 8; t++) {
            x.field(t, 0, INTS, STATIC, 100 + t);
            Due.plainMethod(x, t, 0, STATIC, 200 + t);
        }
        for (int t = 0; t < 8; t++) {
            Due.same("15: in " + t, x.get(t, 0), 2 * t);
            Due.same("16: in " + t, x.call(t, 0, NONE, NONE), 2 * t + 1);
        }
        for (int i = 0; i < 16; i++) {
            int c = i * 5 % 16;
            Due.same("18: CALLER " + c, x.meet(c, 0), 0);
            Due.same("19: CALLER " + c, x.asked(), (c % 2 == 0 ? 100 : 200) + c / 2);
            int d = i * 3 % 16;
            Due.same("20: CALLER " + d, x.anew(d, 0), 0);
            Due.same("19: CALLER " + d, x.asked(), (d % 2 == 0 ? 100 : 200) + d / 2);
        }
        x.above(1, NONE);
        x.drop(3);
        Due.same("18: of 1 the METHOD of its FACE", x.meet(3, 0), 0);
        Due.same("19: of 1 the METHOD of its FACE", x.asked(), 206);
        x.undo();
        x.undo();
        Due.same("18: its own again", x.meet(3, 0), 0);
        Due.same("19: its own again", x.asked(), 201);
    }

    // ---- part 2: TO SELECT

    /** 2: "the first of the CLASS and of those above it, one after another, that has one neither STATIC nor HIDDEN". */
    private static void selectInChains() {
        Edits13 x = new Edits13();
        chainOfClasses(x);
        for (int t = 0; t < 12; t++) {
            Due.same("8", Due.plainMethod(x, t, 0, 0, t), t);
        }
        int[] passed = {STATIC, HIDDEN, STATIC | FINAL, HIDDEN | FINAL, STATIC | HIDDEN, 7};
        for (int t = 11; t > 0; t--) {
            Due.same("26: its own or the next above, " + t, x.selected(11, 0), t);
            x.mark(t, passed[t % passed.length]);
        }
        Due.same("26: the highest", x.selected(11, 11), 0);
        x.mark(0, ABSTRACT);
        Due.same("26: it is ABSTRACT", x.selected(11, 11), NONE);
        x.mark(0, FINAL);
        Due.same("26: FINAL is none of it", x.selected(11, 11), 0);
        x.mark(0, STATIC);
        Due.same("26: nothing", x.selected(11, 11), NONE);
        x.mark(5, ABSTRACT);
        x.mark(0, 0);
        Due.same("26: an ABSTRACT one is the first", x.selected(11, 11), NONE);
        Due.same("26: not for what is above it", x.selected(4, 11), 0);
    }

    /** CLASS 1 under 0; FACES 2, 3, 4 of 1, 5 of 0, 6 of 5; each FACE has a METHOD, by its number less 2. */
    private static void facesToSelect(Edits13 x) {
        Due.plainClass(x);
        Due.classUnder(x, 0);
        for (int f = 2; f < 7; f++) {
            Due.plainFace(x);
        }
        x.face(1, 2);
        x.face(1, 3);
        x.face(1, 4);
        x.face(0, 5);
        x.face(5, 6);
        for (int f = 2; f < 7; f++) {
            Due.plainMethod(x, f, 0, ABSTRACT, f);
        }
    }

    /** 2: "if just one of these is not ABSTRACT, it is that (even if others are ABSTRACT)". */
    private static void selectOfFaces() {
        for (int f = 2; f < 6; f++) {
            Edits13 x = new Edits13();
            facesToSelect(x);
            Due.same("26: there are any, all ABSTRACT", x.selected(1, f - 2), NONE);
            x.mark(f - 2, 0);
            Due.same("26: just one, of " + f, x.selected(1, 0), f - 2);
            int other = f == 5 ? 2 : f + 1;
            x.mark(other - 2, FINAL);
            Due.same("26: more, " + f + " and " + other, x.selected(1, 0), RING);
            x.mark(f - 2, STATIC);
            Due.same("26: one is STATIC", x.selected(1, 0), other - 2);
            x.mark(f - 2, HIDDEN);
            Due.same("26: one is HIDDEN", x.selected(1, 0), other - 2);
        }
    }

    /** 2: "but not those that another one of these FACES is BELOW". */
    private static void selectTheLowest() {
        Edits13 x = new Edits13();
        facesToSelect(x);
        x.mark(4, 0);
        Due.same("26: 5 is BELOW 6, and ABSTRACT", x.selected(0, 4), NONE);
        x.mark(3, STATIC);
        Due.same("26: 5 has none such, so 6", x.selected(0, 4), 4);
        x.mark(3, HIDDEN);
        Due.same("26: 5 has none such, so 6", x.selected(0, 4), 4);
        x.mark(3, 0);
        Due.same("26: 5", x.selected(0, 4), 3);
        Due.same("26: both are of what is above 1", x.selected(1, 4), 3);
        x.face(2, 5);
        Due.same("26: 2 is BELOW 5, and ABSTRACT", x.selected(1, 4), NONE);
        Due.same("26: but not for 0", x.selected(0, 4), 3);
        x.drop(3);
        x.drop(0);
        Due.same("26: 6 by FACES that have none", x.selected(1, 4), 4);
        x.mark(1, 0);
        Due.same("26: 3 is not BELOW 6: more", x.selected(1, 4), RING);
        x.face(3, 5);
        Due.same("26: 3 is BELOW 6 by 5, which has none", x.selected(1, 4), 1);
        x.mark(2, 0);
        Due.same("26: 4 is another lowest one: more", x.selected(1, 4), RING);
        x.mark(1, ABSTRACT);
        Due.same("26: 3 is ABSTRACT, so just 4", x.selected(1, 4), 2);
        x.face(4, 3);
        Due.same("26: 4 is BELOW 3 and 6", x.selected(1, 4), 2);
    }

    /** The same FACE by two ways is one FACE. */
    private static void selectByTwoWays() {
        Edits13 x = new Edits13();
        Due.plainClass(x);
        Due.classUnder(x, 0);
        for (int f = 2; f < 5; f++) {
            Due.plainFace(x);
        }
        x.face(0, 4);
        x.face(1, 2);
        x.face(1, 3);
        x.face(2, 4);
        x.face(3, 4);
        int m = Due.plainMethod(x, 4, 0, 0, 1);
        Due.same("26: by four ways", x.selected(1, m), m);
        Due.plainMethod(x, 0, 0, STATIC, 2);
        Due.same("26: a STATIC one of a CLASS is passed", x.selected(1, m), m);
        Due.plainMethod(x, 1, 0, HIDDEN, 2);
        Due.same("26: a HIDDEN one of a CLASS is passed", x.selected(1, m), m);
    }

    /** The FACE with the least number is the lowest one, and the highest one. */
    private static void selectByNumbers() {
        for (int low = 0; low < 2; low++) {
            Edits13 x = new Edits13();
            Due.plainFace(x);
            Due.plainFace(x);
            Due.plainClass(x);
            x.face(2, 0);
            x.face(2, 1);
            int m = Due.plainMethod(x, 0, 0, 0, 5);
            int n = Due.plainMethod(x, 1, 0, 0, 6);
            Due.same("26: two", x.selected(2, m), RING);
            x.face(low, 1 - low);
            Due.same("26: " + low + " is BELOW the other", x.selected(2, m), low == 0 ? m : n);
            Due.same("26: " + low + " is BELOW the other", x.selected(2, n), low == 0 ? m : n);
        }
    }

    // ---- part 3: CALLERS

    /** 3: "If it is STATIC and FINAL the CALLER keeps its value", and only then. */
    private static void keeps() {
        for (int marks = 0; marks < 8; marks++) {
            Edits13 x = new Edits13();
            Due.plainClass(x);
            x.field(0, 0, INTS, marks, 5L);
            int due = (marks & HIDDEN) != 0 ? Due.NO_SUCH : 0;
            Due.same("15: MARKS " + marks, x.get(0, 0), due);
            if (due == 0) {
                Due.same("22: MARKS " + marks, x.caller(0, 5), marks == (STATIC | FINAL) ? 1 : 0);
                x.set(0, 6L);
                Due.same("18: MARKS " + marks, x.meet(0, 0), 0);
                Due.same("19: MARKS " + marks, x.asked(), marks == (STATIC | FINAL) ? 5 : 6);
            }
        }
    }

    private static void overloads(Edits13 x) {
        Due.plainClass(x);
        Due.classUnder(x, 0);
        Due.classUnder(x, 1);
        Due.plainFace(x);
        x.face(1, 3);
    }

    private static void finds(String what, Edits13 x, int caller, int answer, int first, int second) {
        Due.same(what, answer, caller);
        Due.same(what + ", first PARAMETER", x.caller(caller, 3), first);
        Due.same(what + ", second PARAMETER", x.caller(caller, 4), second);
    }

    /** 3: "with 0 to 2 arguments", "with as many PARAMETERS, each argument BELOW its PARAMETER". */
    private static void howMany() {
        Edits13 x = new Edits13();
        overloads(x);
        x.method(0, 0, NONE, NONE, 0, 1);
        x.method(0, 0, 0, NONE, 0, 2);
        x.method(0, 0, 0, 3, 0, 3);
        finds("16: none", x, 0, x.call(0, 0, NONE, NONE), NONE, NONE);
        finds("16: one", x, 1, x.call(0, 0, 2, NONE), 0, NONE);
        finds("16: two", x, 2, x.call(0, 0, 0, 2), 0, 3);
        finds("16: two, each its PARAMETER itself", x, 3, x.call(0, 0, 0, 3), 0, 3);
        Due.same("16: one is not BELOW", x.call(0, 0, 3, NONE), Due.NO_SUCH);
        Due.same("16: the first is not BELOW", x.call(0, 0, 3, 3), Due.NO_SUCH);
        Due.same("16: the second is not BELOW", x.call(0, 0, 0, 0), Due.NO_SUCH);
        Due.same("16: of another TYPE", x.call(3, 0, NONE, NONE), Due.NO_SUCH);
    }

    /** 3: "the one of these whose PARAMETERS are BELOW those of each other one, each; 2 MANY, if there is none". */
    private static void many() {
        Edits13 x = new Edits13();
        overloads(x);
        x.method(0, 0, 0, NONE, 0, 1);
        int face = x.method(0, 0, 3, NONE, 0, 2);
        Due.same("16: neither is BELOW the other", x.call(0, 0, 2, NONE), Due.MANY);
        finds("16: only one FITS", x, 0, x.call(0, 0, 0, NONE), 0, NONE);
        finds("16: only the other one FITS", x, 1, x.call(0, 0, 3, NONE), 3, NONE);
        int both = x.method(0, 0, 1, NONE, ABSTRACT, 3);
        finds("16: one is BELOW both", x, 2, x.call(0, 0, 2, NONE), 1, NONE);
        x.mark(both, HIDDEN);
        Due.same("16: HIDDEN, it does not FIT", x.call(0, 0, 2, NONE), Due.MANY);
        x.mark(face, HIDDEN);
        finds("16: one is left", x, 3, x.call(0, 0, 2, NONE), 0, NONE);
        x.method(0, 1, 0, 1, 0, 1);
        x.method(0, 1, 1, 0, 0, 2);
        x.method(0, 1, 0, 0, 0, 3);
        Due.same("16: crosswise", x.call(0, 1, 2, 2), Due.MANY);
        finds("16: not crosswise", x, 4, x.call(0, 1, 0, 2), 0, 1);
        finds("16: not crosswise", x, 5, x.call(0, 1, 2, 0), 1, 0);
        finds("16: the widest alone", x, 6, x.call(0, 1, 0, 0), 0, 0);
        x.method(0, 1, 1, 1, STATIC, 4);
        finds("16: one is BELOW all, in each", x, 7, x.call(0, 1, 2, 2), 1, 1);
        x.method(0, 1, 2, 0, 0, 5);
        Due.same("16: one is BELOW it in the first alone", x.call(0, 1, 2, 2), Due.MANY);
    }

    /** 3: NEW: "3 HOLLOW t is a FACE, or ABSTRACT" (of FACES the MARK does not count, they are HOLLOW anyway). */
    private static void make() {
        int[] ofClass = {0, Due.HOLLOW, 0, Due.HOLLOW};
        for (int marks = 0; marks < 4; marks++) {
            Edits13 x = new Edits13();
            x.type(false, NONE, marks);
            x.type(true, NONE, marks);
            Due.same("17: a CLASS, MARKS " + marks, x.make(0), ofClass[marks]);
            Due.same("17: a FACE, MARKS " + marks, x.make(1), Due.HOLLOW);
        }
        Edits13 x = new Edits13();
        Due.plainClass(x);
        Due.plainMethod(x, 0, 0, ABSTRACT, 1);
        Due.same("26: hollow by it", x.selected(0, 0), NONE);
        Due.same("17: which is not HOLLOW", x.make(0), 0);
        Due.same("18: nor then", x.meet(0, 0), 0);
        Due.same("22: n of NEW", x.caller(0, 2), NONE);
    }

    public static void main(String[] args) {
        belowInChains();
        twoWays();
        numberAgain();
        like();
        notLike();
        lookForFields();
        lookForMethods();
        hiddenFields();
        lookInChains();
        lookByManyWays();
        lookByTurns();
        selectInChains();
        selectOfFaces();
        selectTheLowest();
        selectByTwoWays();
        selectByNumbers();
        keeps();
        howMany();
        many();
        make();
        Due.end();
    }
}
