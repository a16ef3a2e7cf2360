/**
 * A house of TYPES that are edited while old CALLERS stay as they were made.
 * The words in capitals are those of the document.
 */
public final class Edits13 {
    public static final int BAD = -1, NONE = -2, FULL = -3, RING = -4;

    private static final int MOST_EDITS = 120;
    private static final int MOST_CALLERS = 24;
    private static final int FAULTS = -10;
    private static final int FAILURES = -30;

    private final House house;
    private final Maker maker;
    private final Meeting meeting;
    private final Edit[] edits;
    private int editCount;
    private final Caller[] callers;
    private int callerCount;
    private final Caller again;
    private long asked;

    public Edits13() {
        house = new House();
        maker = new Maker(house);
        meeting = new Meeting(house);
        edits = new Edit[MOST_EDITS];
        callers = new Caller[MOST_CALLERS];
        again = new Caller();
    }

    // ---- edits

    public int type(boolean face, int above, int marks) {
        if (!house.types.mayCome(face, above, marks)) {
            return BAD;
        }
        if (house.types.size >= Types.MOST) {
            return FULL;
        }
        return carryOut(new Edit(Edit.TYPE, face ? 1 : 0, above, marks, 0, 0, 0L));
    }

    public int above(int type, int above) {
        if (!house.types.isClass(type) || above != NONE && !house.types.isClass(above)) {
            return BAD;
        }
        if (house.types.isBelow(above, type)) {
            return RING;
        }
        return carryOut(new Edit(Edit.ABOVE, type, above, 0, 0, 0, 0L));
    }

    public int face(int type, int face) {
        if (!house.types.mayHaveFace(type, face)) {
            return BAD;
        }
        if (house.types.isBelow(face, type)) {
            return RING;
        }
        return carryOut(new Edit(Edit.FACE, type, face, 0, 0, 0, 0L));
    }

    public int unface(int type, int i) {
        if (house.types.faceAt(type, i) == NONE) {
            return BAD;
        }
        return carryOut(new Edit(Edit.UNFACE, type, i, 0, 0, 0, 0L));
    }

    public int marks(int type, int m) {
        if (!house.types.isType(type) || !Types.areMarks(m)) {
            return BAD;
        }
        return carryOut(new Edit(Edit.MARKS, type, m, 0, 0, 0, 0L));
    }

    public int field(int type, int name, int kind, int marks, long v) {
        if (!house.fieldMayCome(type, name, kind, marks)) {
            return BAD;
        }
        if (house.members.isFull()) {
            return FULL;
        }
        return carryOut(new Edit(Edit.FIELD, type, name, kind, NONE, marks, v));
    }

    public int method(int type, int name, int a, int b, int marks, int v) {
        if (!house.methodMayCome(type, name, a, b, marks)) {
            return BAD;
        }
        if (house.members.isFull()) {
            return FULL;
        }
        return carryOut(new Edit(Edit.METHOD, type, name, a, b, marks, v));
    }

    public int drop(int member) {
        if (!house.members.isMember(member)) {
            return BAD;
        }
        return carryOut(new Edit(Edit.DROP, member, 0, 0, 0, 0, 0L));
    }

    public int mark(int member, int m) {
        if (!house.mayBeMarked(member, m)) {
            return BAD;
        }
        return carryOut(new Edit(Edit.MARK, member, m, 0, 0, 0, 0L));
    }

    public int set(int member, long v) {
        if (!house.members.isMember(member)) {
            return BAD;
        }
        return carryOut(new Edit(Edit.SET, member, 0, 0, 0, 0, v));
    }

    public int retype(int field, int kind, long v) {
        if (!house.members.isField(field) || !Kinds.isKind(kind)) {
            return BAD;
        }
        return carryOut(new Edit(Edit.RETYPE, field, kind, 0, 0, 0, v));
    }

    public int move(int member, int type) {
        if (!house.mayMove(member, type)) {
            return BAD;
        }
        return carryOut(new Edit(Edit.MOVE, member, type, 0, 0, 0, 0L));
    }

    public int undo() {
        if (editCount <= 0) {
            return NONE;
        }
        editCount--;
        edits[editCount] = null;
        house.clear();
        redo(0, editCount);
        return editCount;
    }

    // ---- callers

    public int get(int type, int name) {
        if (!house.types.isType(type) || !Members.isName(name)) {
            return BAD;
        }
        return keepCaller(Caller.GET, type, name, NONE, NONE);
    }

    public int call(int type, int name, int a, int b) {
        if (!house.types.isType(type) || !Members.isName(name) || !house.types.areParameters(a, b)) {
            return BAD;
        }
        return keepCaller(Caller.CALL, type, name, a, b);
    }

    public int make(int type) {
        if (!house.types.isType(type)) {
            return BAD;
        }
        return keepCaller(Caller.NEW, type, NONE, NONE, NONE);
    }

    public int meet(int caller, int r) {
        Caller c = callerAt(caller);
        if (c == null || !house.types.isClass(r)) {
            return BAD;
        }
        return tellMeeting(c, r);
    }

    public long asked() {
        return asked;
    }

    public int anew(int caller, int r) {
        Caller c = callerAt(caller);
        if (c == null || !house.types.isClass(r)) {
            return BAD;
        }
        if (!house.types.isType(c.t) || !house.types.areParameters(c.a, c.b)) {
            return NONE;
        }
        again.name(c.sort, c.t, c.n, c.a, c.b);
        int fault = maker.faultOf(again);
        return fault != 0 ? FAULTS - fault : tellMeeting(again, r);
    }

    public int culprit(int caller, int r) {
        Caller c = callerAt(caller);
        if (c == null || !house.types.isClass(r)) {
            return BAD;
        }
        if (editCount < c.made) {
            return NONE;
        }
        house.clear();
        redo(0, c.made);
        if (!house.types.isClass(r)) {
            redo(c.made, editCount);
            return BAD;
        }
        int changed = firstChange(c, r);
        // The house was left behind the EDIT that was found: bring it to the present again.
        redo(changed == 0 ? editCount : changed, editCount);
        return changed;
    }

    public int caller(int caller, int what) {
        Caller c = callerAt(caller);
        return c == null ? BAD : c.tell(what);
    }

    // ---- what there is

    public int told(int type, int what) {
        return house.types.tell(type, what);
    }

    public int below(int type, int other) {
        if (!house.types.isType(type) || !house.types.isType(other)) {
            return BAD;
        }
        return house.types.isBelow(type, other) ? 1 : 0;
    }

    public int member(int m, int what) {
        return house.members.tell(m, what);
    }

    public int selected(int type, int method) {
        if (!house.types.isClass(type) || !house.members.isMethod(method)) {
            return BAD;
        }
        Members all = house.members;
        return house.select(type, all.name[method], all.first[method], all.second[method]);
    }

    public int count(int what) {
        switch (what) {
            case 0:
                return house.types.size;
            case 1:
                return house.members.size;
            case 2:
                return callerCount;
            case 3:
                return editCount;
            default:
                return BAD;
        }
    }

    public long digest() {
        return 31L * house.members.digestOn(house.types.digestOn(17L)) + editCount;
    }

    // ---- helpers

    private int carryOut(Edit edit) {
        if (editCount >= MOST_EDITS) {
            return FULL;
        }
        edits[editCount] = edit;
        editCount++;
        return house.carryOut(edit);
    }

    private void redo(int from, int to) {
        for (int i = Math.max(from, 0); i < to && i < edits.length; i++) {
            Edit edit = edits[i];
            if (edit != null) {
                house.carryOut(edit);
            }
        }
    }

    private int keepCaller(int sort, int t, int n, int a, int b) {
        if (callerCount >= MOST_CALLERS) {
            return FULL;
        }
        Caller c = new Caller();
        c.name(sort, t, n, a, b);
        int fault = maker.faultOf(c);
        if (fault != 0) {
            return FAULTS - fault;
        }
        c.made = editCount;
        callers[callerCount] = c;
        callerCount++;
        return callerCount - 1;
    }

    private Caller callerAt(int number) {
        return number >= 0 && number < callerCount ? callers[number] : null;
    }

    private int tellMeeting(Caller c, int r) {
        int failure = meeting.failureOf(c, r);
        if (failure != 0) {
            return FAILURES - failure;
        }
        asked = meeting.found;
        return 0;
    }

    /** Begins with the house behind c.made EDITS, and leaves it behind the EDIT that it answers (0: behind all). */
    private int firstChange(Caller c, int r) {
        int failure = meeting.failureOf(c, r);
        long found = meeting.found;
        for (int i = c.made; i < editCount; i++) {
            redo(i, i + 1);
            if (!house.types.isClass(r) || meeting.failureOf(c, r) != failure || meeting.found != found) {
                return i + 1;
            }
        }
        return 0;
    }

    // ---- the classes inside

    /** One EDIT with its numbers, so that it can be done again. */
    private static final class Edit {
        static final int TYPE = 0, ABOVE = 1, FACE = 2, UNFACE = 3, MARKS = 4, FIELD = 5, METHOD = 6;
        static final int DROP = 7, MARK = 8, SET = 9, RETYPE = 10, MOVE = 11;

        final int sort;
        final int a;
        final int b;
        final int c;
        final int d;
        final int e;
        final long v;

        Edit(int sort, int a, int b, int c, int d, int e, long v) {
            this.sort = sort;
            this.a = a;
            this.b = b;
            this.c = c;
            this.d = d;
            this.e = e;
            this.v = v;
        }
    }

    /** KINDS of FIELDS. A value is held as the long that comes out of it: each KIND gives that long back unchanged. */
    private static final class Kinds {
        /** Of each KIND the KINDS, as bits, that it WIDENS to. */
        private static final int[] WIDER = {0x01, 0xFA, 0xF4, 0xF8, 0xF0, 0xE0, 0xC0, 0x80};

        static boolean isKind(int kind) {
            return kind >= 0 && kind < WIDER.length;
        }

        static boolean widens(int from, int to) {
            return isKind(from) && isKind(to) && (WIDER[from] >> to & 1) != 0;
        }

        static long comesOut(int kind, long v) {
            switch (kind) {
                case 0:
                    return v != 0L ? 1L : 0L;
                case 1:
                    return (byte) v;
                case 2:
                    return (char) v;
                case 3:
                    return (short) v;
                case 4:
                    return (int) v;
                case 6:
                    return (long) (float) v;
                case 7:
                    return (long) (double) v;
                default:
                    return v;
            }
        }
    }

    /** The TYPES and how they stand to one another. */
    private static final class Types {
        static final int MOST = 12;
        static final int MOST_FACES = 3;
        private static final int ABSTRACT = 1;
        private static final int FINAL = 2;

        int size;
        private final boolean[] isFace = new boolean[MOST];
        private final int[] above = new int[MOST];
        private final int[] marks = new int[MOST];
        private final int[] faceCount = new int[MOST];
        private final int[] faces = new int[MOST * MOST_FACES];
        /** Of each TYPE those, as bits, that it is BELOW. */
        private final int[] over = new int[MOST];
        private int classes;
        /** The TYPES in the order in which one LOOKS, as the latest order...() left them. */
        private final int[] order = new int[MOST];
        int ordered;
        private int seen;

        void clear() {
            size = 0;
            classes = 0;
        }

        boolean isType(int t) {
            return t >= 0 && t < size;
        }

        boolean isClass(int t) {
            return t >= 0 && t < size && !isFace[t];
        }

        boolean isFace(int t) {
            return t >= 0 && t < size && isFace[t];
        }

        boolean isAbstract(int t) {
            return t >= 0 && t < size && !isFace[t] && (marks[t] & ABSTRACT) != 0;
        }

        boolean isFinal(int t) {
            return t >= 0 && t < size && (marks[t] & FINAL) != 0;
        }

        int whatIsAbove(int t) {
            return t >= 0 && t < size ? above[t] : NONE;
        }

        int faceAt(int t, int i) {
            return t >= 0 && t < size && i >= 0 && i < faceCount[t] ? faces[t * MOST_FACES + i] : NONE;
        }

        boolean isBelow(int t, int other) {
            return t >= 0 && t < size && other >= 0 && other < size && (over[t] >> other & 1) != 0;
        }

        /** The CLASSES, as bits, that are above t. */
        int classesAbove(int t) {
            return t >= 0 && t < size ? over[t] & classes & ~(1 << t) : 0;
        }

        /** The FACES, as bits, that t is BELOW. */
        int facesOver(int t) {
            return t >= 0 && t < size ? over[t] & ~classes : 0;
        }

        /** Whether an argument goes into a PARAMETER; where both are NONE there is nothing to go. */
        boolean goesInto(int argument, int parameter) {
            return argument == NONE ? parameter == NONE : isBelow(argument, parameter);
        }

        boolean areParameters(int a, int b) {
            return a == NONE ? b == NONE : isType(a) && (b == NONE || isType(b));
        }

        static boolean areMarks(int m) {
            return m >= 0 && m <= (ABSTRACT | FINAL);
        }

        boolean mayCome(boolean face, int up, int m) {
            return areMarks(m) && (up == NONE || !face && isClass(up));
        }

        boolean mayHaveFace(int t, int face) {
            return isType(t) && isFace(face) && faceCount[t] < MOST_FACES && !hasFace(t, face);
        }

        private boolean hasFace(int t, int face) {
            for (int i = 0; i < MOST_FACES; i++) {
                if (faceAt(t, i) == face) {
                    return true;
                }
            }
            return false;
        }

        int add(boolean face, int up, int m) {
            if (size >= MOST) {
                return FULL;
            }
            int t = size;
            size++;
            isFace[t] = face;
            classes |= face ? 0 : 1 << t;
            above[t] = up;
            marks[t] = m;
            faceCount[t] = 0;
            findOver();
            return t;
        }

        int putAbove(int t, int up) {
            if (!isType(t)) {
                return BAD;
            }
            above[t] = up;
            findOver();
            return 1;
        }

        int addFace(int t, int face) {
            if (!isType(t) || faceCount[t] >= MOST_FACES) {
                return BAD;
            }
            faces[t * MOST_FACES + faceCount[t]] = face;
            faceCount[t]++;
            findOver();
            return faceCount[t];
        }

        int removeFace(int t, int i) {
            if (!isType(t) || i < 0 || i >= faceCount[t]) {
                return BAD;
            }
            for (int k = i; k + 1 < faceCount[t]; k++) {
                faces[t * MOST_FACES + k] = faces[t * MOST_FACES + k + 1];
            }
            faceCount[t]--;
            findOver();
            return faceCount[t];
        }

        int changeMarks(int t, int m) {
            if (!isType(t)) {
                return BAD;
            }
            int before = marks[t];
            marks[t] = m;
            return before;
        }

        /** A chain has at most MOST TYPES, so that after as many rounds nothing grows any more. */
        private void findOver() {
            for (int t = 0; t < size; t++) {
                over[t] = 1 << t;
            }
            boolean grew = true;
            for (int round = 0; grew && round < MOST; round++) {
                grew = false;
                for (int t = 0; t < size; t++) {
                    int wider = over[t] | overDirectly(t);
                    grew = grew || wider != over[t];
                    over[t] = wider;
                }
            }
        }

        private int overDirectly(int t) {
            int up = whatIsAbove(t);
            int all = isType(up) ? over[up] : 0;
            for (int i = 0; i < MOST_FACES; i++) {
                int face = faceAt(t, i);
                all |= isType(face) ? over[face] : 0;
            }
            return all;
        }

        /** For METHODS what is above comes ahead of the FACES, for FIELDS behind them. */
        void orderFrom(int t, boolean facesFirst) {
            ordered = 0;
            seen = 0;
            walk(t, facesFirst, 0);
        }

        int orderedAt(int i) {
            return i >= 0 && i < ordered ? order[i] : NONE;
        }

        /** A TYPE that was walked through had nothing, so that no second walk through it can find anything. */
        private void walk(int t, boolean facesFirst, int depth) {
            if (t < 0 || t >= size || depth >= MOST || ordered >= MOST || (seen >> t & 1) != 0) {
                return;
            }
            seen |= 1 << t;
            order[ordered] = t;
            ordered++;
            if (!facesFirst) {
                walk(above[t], false, depth + 1);
            }
            for (int i = 0; i < faceCount[t]; i++) {
                walk(faces[t * MOST_FACES + i], facesFirst, depth + 1);
            }
            if (facesFirst) {
                walk(above[t], true, depth + 1);
            }
        }

        int tell(int t, int what) {
            if (!isType(t)) {
                return BAD;
            }
            switch (what) {
                case 0:
                    return isFace[t] ? 1 : 0;
                case 1:
                    return above[t];
                case 2:
                    return marks[t];
                case 3:
                    return faceCount[t];
                case 4:
                case 5:
                case 6:
                    return faceAt(t, what - 4);
                default:
                    return BAD;
            }
        }

        long digestOn(long start) {
            long h = start;
            for (int t = 0; t < size; t++) {
                for (int what = 0; what <= 6; what++) {
                    h = 31L * h + tell(t, what);
                }
            }
            return h;
        }
    }

    /** The MEMBERS by their numbers; one that has no owner is free. */
    private static final class Members {
        static final int MOST = 60;
        static final int STATIC = 1, FINAL = 2, HIDDEN = 4, ABSTRACT = 8;

        int size;
        final int[] owner = new int[MOST];
        final boolean[] isMethod = new boolean[MOST];
        final int[] name = new int[MOST];
        final int[] marks = new int[MOST];
        /** Of a FIELD its KIND, of a METHOD its first PARAMETER. */
        final int[] first = new int[MOST];
        /** Of a METHOD its second PARAMETER. */
        final int[] second = new int[MOST];
        final long[] value = new long[MOST];

        Members() {
            for (int m = 0; m < MOST; m++) {
                owner[m] = NONE;
            }
        }

        void clear() {
            size = 0;
            for (int m = 0; m < MOST; m++) {
                owner[m] = NONE;
            }
        }

        static boolean isName(int n) {
            return n >= 0 && n <= 9;
        }

        boolean isFull() {
            return size >= MOST;
        }

        boolean isMember(int m) {
            return m >= 0 && m < MOST && owner[m] != NONE;
        }

        boolean isMethod(int m) {
            return m >= 0 && m < MOST && owner[m] != NONE && isMethod[m];
        }

        boolean isField(int m) {
            return m >= 0 && m < MOST && owner[m] != NONE && !isMethod[m];
        }

        boolean has(int m, int mark) {
            return m >= 0 && m < MOST && owner[m] != NONE && (marks[m] & mark) != 0;
        }

        /** Whether it is a METHOD that another one can take the place of: neither STATIC nor HIDDEN. */
        boolean isOpen(int m) {
            return m >= 0 && m < MOST && owner[m] != NONE && isMethod[m] && (marks[m] & (STATIC | HIDDEN)) == 0;
        }

        int fieldOf(int type, int n) {
            for (int m = 0; m < MOST; m++) {
                if (owner[m] == type && !isMethod[m] && name[m] == n) {
                    return m;
                }
            }
            return NONE;
        }

        int methodOf(int type, int n, int a, int b) {
            for (int m = 0; m < MOST; m++) {
                if (owner[m] == type && isMethod[m] && name[m] == n && first[m] == a && second[m] == b) {
                    return m;
                }
            }
            return NONE;
        }

        /** The one of a TYPE that is LIKE m. */
        int likeIn(int type, int m) {
            if (!isMember(m)) {
                return NONE;
            }
            return isMethod[m] ? methodOf(type, name[m], first[m], second[m]) : fieldOf(type, name[m]);
        }

        int add(boolean method, Edit edit) {
            int m = leastFree();
            if (m == NONE) {
                return FULL;
            }
            size++;
            owner[m] = edit.a;
            isMethod[m] = method;
            name[m] = edit.b;
            first[m] = edit.c;
            second[m] = edit.d;
            marks[m] = edit.e;
            putValue(m, edit.v);
            return m;
        }

        private int leastFree() {
            for (int m = 0; m < MOST; m++) {
                if (owner[m] == NONE) {
                    return m;
                }
            }
            return NONE;
        }

        int remove(int m) {
            if (!isMember(m)) {
                return BAD;
            }
            owner[m] = NONE;
            size--;
            return 1;
        }

        int changeMarks(int m, int marksNow) {
            if (!isMember(m)) {
                return BAD;
            }
            int before = marks[m];
            marks[m] = marksNow;
            return before;
        }

        int putValue(int m, long v) {
            if (!isMember(m)) {
                return BAD;
            }
            value[m] = isMethod[m] ? (int) v : Kinds.comesOut(first[m], v);
            return 1;
        }

        int changeKind(int m, int kind, long v) {
            if (!isField(m)) {
                return BAD;
            }
            first[m] = kind;
            return putValue(m, v);
        }

        int changeOwner(int m, int type) {
            if (!isMember(m)) {
                return BAD;
            }
            owner[m] = type;
            return 1;
        }

        int tell(int m, int what) {
            if (!isMember(m)) {
                return BAD;
            }
            switch (what) {
                case 0:
                    return isMethod[m] ? 1 : 0;
                case 1:
                    return owner[m];
                case 2:
                    return name[m];
                case 3:
                    return marks[m];
                case 4:
                    return first[m];
                case 5:
                    return second[m];
                default:
                    return BAD;
            }
        }

        long digestOn(long start) {
            long h = start;
            for (int m = 0; m < MOST; m++) {
                if (isMember(m)) {
                    h = 31L * h + m;
                    for (int what = 0; what <= 5; what++) {
                        h = 31L * h + tell(m, what);
                    }
                    h = 31L * h + value[m];
                }
            }
            return h;
        }
    }

    /** TYPES and MEMBERS together: all that EDITS change. */
    private static final class House {
        static final int BARRED = 1, BROKEN = 2;

        final Types types = new Types();
        final Members members = new Members();

        void clear() {
            types.clear();
            members.clear();
        }

        int carryOut(Edit edit) {
            switch (edit.sort) {
                case Edit.TYPE:
                    return types.add(edit.a != 0, edit.b, edit.c);
                case Edit.ABOVE:
                    return types.putAbove(edit.a, edit.b);
                case Edit.FACE:
                    return types.addFace(edit.a, edit.b);
                case Edit.UNFACE:
                    return types.removeFace(edit.a, edit.b);
                case Edit.MARKS:
                    return types.changeMarks(edit.a, edit.b);
                case Edit.FIELD:
                    return members.add(false, edit);
                case Edit.METHOD:
                    return members.add(true, edit);
                case Edit.DROP:
                    return members.remove(edit.a);
                case Edit.MARK:
                    return members.changeMarks(edit.a, edit.b);
                case Edit.SET:
                    return members.putValue(edit.a, edit.v);
                case Edit.RETYPE:
                    return members.changeKind(edit.a, edit.b, edit.v);
                case Edit.MOVE:
                    return members.changeOwner(edit.a, edit.b);
                default:
                    return BAD;
            }
        }

        boolean fieldMayCome(int type, int name, int kind, int marks) {
            return types.isType(type) && Members.isName(name) && Kinds.isKind(kind)
                && areFieldMarks(type, marks) && members.fieldOf(type, name) == NONE;
        }

        boolean methodMayCome(int type, int name, int a, int b, int marks) {
            return types.isType(type) && Members.isName(name) && types.areParameters(a, b)
                && areMethodMarks(marks) && members.methodOf(type, name, a, b) == NONE;
        }

        boolean mayBeMarked(int m, int marks) {
            if (!members.isMember(m)) {
                return false;
            }
            return members.isMethod(m) ? areMethodMarks(marks) : areFieldMarks(members.owner[m], marks);
        }

        boolean mayMove(int m, int type) {
            if (!members.isMember(m) || !types.isType(type)) {
                return false;
            }
            // Its own TYPE has one LIKE it, too: the MEMBER itself.
            return members.likeIn(type, m) == NONE
                && (members.isMethod(m) || areFieldMarks(type, members.marks[m]));
        }

        private boolean areFieldMarks(int type, int marks) {
            boolean known = marks >= 0 && marks < Members.ABSTRACT;
            return known && (types.isClass(type) || (marks & Members.STATIC) != 0);
        }

        /** ABSTRACT goes with no other MARK, and is the highest one. */
        private static boolean areMethodMarks(int marks) {
            return marks >= 0 && marks <= Members.ABSTRACT;
        }

        /** Only a GET that is made passes HIDDEN ones over. */
        int lookForField(int t, int name, boolean passHidden) {
            types.orderFrom(t, true);
            for (int i = 0; i < types.ordered; i++) {
                int m = members.fieldOf(types.orderedAt(i), name);
                if (m != NONE && !(passHidden && members.has(m, Members.HIDDEN))) {
                    return m;
                }
            }
            return NONE;
        }

        int lookForMethod(int t, int name, int a, int b) {
            types.orderFrom(t, false);
            return firstMethod(name, a, b);
        }

        /** In the TYPES as they were ordered last. A HIDDEN one is found too, and so covers those behind it. */
        int firstMethod(int name, int a, int b) {
            for (int i = 0; i < types.ordered; i++) {
                int m = members.methodOf(types.orderedAt(i), name, a, b);
                if (m != NONE) {
                    return m;
                }
            }
            return NONE;
        }

        /** The number of the METHOD; NONE: nothing, or it is ABSTRACT; RING: it CLASHES. */
        int select(int r, int name, int a, int b) {
            int up = r;
            for (int i = 0; i < Types.MOST && types.isType(up); i++) {
                int m = members.methodOf(up, name, a, b);
                if (members.isOpen(m)) {
                    return members.has(m, Members.ABSTRACT) ? NONE : m;
                }
                up = types.whatIsAbove(up);
            }
            return selectOfFaces(r, name, a, b);
        }

        private int selectOfFaces(int r, int name, int a, int b) {
            int faces = types.facesOver(r);
            int having = 0;
            for (int f = 0; f < types.size; f++) {
                if ((faces >> f & 1) != 0 && members.isOpen(members.methodOf(f, name, a, b))) {
                    having |= 1 << f;
                }
            }
            int chosen = NONE;
            for (int f = 0; f < types.size; f++) {
                int m = (having >> f & 1) != 0 && isLowest(f, having) ? members.methodOf(f, name, a, b) : NONE;
                if (m != NONE && !members.has(m, Members.ABSTRACT)) {
                    if (chosen != NONE) {
                        return RING;
                    }
                    chosen = m;
                }
            }
            return chosen;
        }

        /** Whether none of the others is BELOW it. */
        private boolean isLowest(int face, int having) {
            for (int f = 0; f < types.size; f++) {
                if (f != face && (having >> f & 1) != 0 && types.isBelow(f, face)) {
                    return false;
                }
            }
            return true;
        }

        /**
         * The FAILURE of READING t, or 0. The highest CLASS is READ first, so that of several FAILURES its own
         * is it. FACES have nothing above them, and so READING them never fails.
         */
        int failureOfReading(int t) {
            int failure = 0;
            int low = t;
            int up = types.whatIsAbove(low);
            for (int i = 0; i < Types.MOST && up != NONE; i++) {
                if (types.isFinal(up)) {
                    failure = BARRED;
                } else if (isBroken(low)) {
                    failure = BROKEN;
                }
                low = up;
                up = types.whatIsAbove(low);
            }
            return failure;
        }

        private boolean isBroken(int t) {
            Members all = members;
            int ups = types.classesAbove(t);
            for (int m = 0; m < Members.MOST; m++) {
                if (all.has(m, Members.FINAL) && all.isOpen(m) && (ups >> all.owner[m] & 1) != 0
                    && all.isOpen(all.methodOf(t, all.name[m], all.first[m], all.second[m]))) {
                    return true;
                }
            }
            return false;
        }
    }

    /** What a CALLER names, and what it keeps of what there was when it was made. */
    private static final class Caller {
        static final int GET = 0, CALL = 1, NEW = 2;

        int sort;
        int t;
        int n;
        /** The arguments, which only a making anew looks at. */
        int a;
        int b;
        /** The PARAMETERS. */
        int first;
        int second;
        int kind;
        boolean isStatic;
        boolean onFace;
        boolean keeps;
        long kept;
        /** How many EDITS there were when it was made. */
        int made;

        void name(int itsSort, int type, int itsName, int argument, int other) {
            sort = itsSort;
            t = type;
            n = itsName;
            a = argument;
            b = other;
            first = NONE;
            second = NONE;
            kind = 0;
            isStatic = false;
            onFace = false;
            keeps = false;
            kept = 0L;
        }

        int tell(int what) {
            switch (what) {
                case 0:
                    return sort;
                case 1:
                    return t;
                case 2:
                    return n;
                case 3:
                    return first;
                case 4:
                    return second;
                case 5:
                    return keeps ? 1 : 0;
                case 6:
                    return made;
                default:
                    return BAD;
            }
        }
    }

    /** Makes CALLERS against what there is. */
    private static final class Maker {
        private static final int NO_SUCH = 1, MANY = 2, HOLLOW = 3;

        private final House house;
        private final int[] fitting = new int[Members.MOST];
        private int fittingCount;

        Maker(House house) {
            this.house = house;
        }

        /** Lets c, whose TYPES are there, keep what it has to: the FAULT, or 0. */
        int faultOf(Caller c) {
            switch (c.sort) {
                case Caller.GET:
                    return faultOfGet(c);
                case Caller.CALL:
                    return faultOfCall(c);
                default:
                    return house.types.isFace(c.t) || house.types.isAbstract(c.t) ? HOLLOW : 0;
            }
        }

        private int faultOfGet(Caller c) {
            Members all = house.members;
            int m = house.lookForField(c.t, c.n, true);
            if (!all.isField(m)) {
                return NO_SUCH;
            }
            c.kind = all.first[m];
            c.isStatic = all.has(m, Members.STATIC);
            c.keeps = c.isStatic && all.has(m, Members.FINAL);
            c.kept = c.keeps ? all.value[m] : 0L;
            return 0;
        }

        private int faultOfCall(Caller c) {
            Members all = house.members;
            findFitting(c);
            if (fittingCount == 0) {
                return NO_SUCH;
            }
            int m = narrowest();
            if (!all.isMethod(m)) {
                return MANY;
            }
            c.onFace = house.types.isFace(c.t);
            c.first = all.first[m];
            c.second = all.second[m];
            c.isStatic = all.has(m, Members.STATIC);
            return 0;
        }

        private void findFitting(Caller c) {
            fittingCount = 0;
            house.types.orderFrom(c.t, false);
            for (int m = 0; m < Members.MOST && fittingCount < fitting.length; m++) {
                if (fits(m, c)) {
                    fitting[fittingCount] = m;
                    fittingCount++;
                }
            }
        }

        /** With the TYPES ordered from that of c on. */
        private boolean fits(int m, Caller c) {
            Members all = house.members;
            if (!all.isMethod(m) || all.name[m] != c.n || all.has(m, Members.HIDDEN)) {
                return false;
            }
            int first = all.first[m];
            int second = all.second[m];
            return house.types.goesInto(c.a, first) && house.types.goesInto(c.b, second)
                && house.firstMethod(c.n, first, second) == m;
        }

        private int narrowest() {
            for (int i = 0; i < fittingCount; i++) {
                if (goesIntoAll(fitting[i])) {
                    return fitting[i];
                }
            }
            return NONE;
        }

        private boolean goesIntoAll(int m) {
            Members all = house.members;
            for (int i = 0; i < fittingCount; i++) {
                int other = fitting[i];
                if (!house.types.goesInto(all.first[m], all.first[other])
                    || !house.types.goesInto(all.second[m], all.second[other])) {
                    return false;
                }
            }
            return true;
        }
    }

    /** What a CALLER MEETS in the house as it is. */
    private static final class Meeting {
        private static final int LOST = 3, CLOSED = 4, CHANGED = 5, UNLIKE = 6, CAST = 7, EMPTY = 8, HOLLOW = 9;

        private final House house;
        /** What was met; 0 where there was a FAILURE. */
        long found;

        Meeting(House house) {
            this.house = house;
        }

        /** The FAILURE, or 0. */
        int failureOf(Caller c, int r) {
            found = 0L;
            if (!house.types.isType(c.t) || !house.types.areParameters(c.first, c.second)) {
                return LOST;
            }
            if (c.keeps) {
                found = c.kept;
                return 0;
            }
            int failure = house.failureOfReading(c.t);
            if (failure != 0) {
                return failure;
            }
            switch (c.sort) {
                case Caller.GET:
                    return failureOfGet(c, r);
                case Caller.CALL:
                    return failureOfCall(c, r);
                default:
                    return failureOfNew(c);
            }
        }

        private int failureOfGet(Caller c, int r) {
            Members all = house.members;
            int m = house.lookForField(c.t, c.n, false);
            int failure = failureOfFound(c, m);
            if (failure == 0 && !c.isStatic) {
                failure = failureOfObject(c, r);
            }
            if (failure != 0) {
                return failure;
            }
            if (!Kinds.widens(all.first[m], c.kind)) {
                return CAST;
            }
            found = Kinds.comesOut(c.kind, all.value[m]);
            return 0;
        }

        private int failureOfCall(Caller c, int r) {
            Members all = house.members;
            if (house.types.isFace(c.t) != c.onFace) {
                return CHANGED;
            }
            int m = house.lookForMethod(c.t, c.n, c.first, c.second);
            int failure = failureOfFound(c, m);
            if (failure == 0 && !c.isStatic) {
                failure = failureOfObject(c, r);
            }
            if (failure != 0) {
                return failure;
            }
            int chosen = c.isStatic ? m : house.select(r, c.n, c.first, c.second);
            if (!all.isMethod(chosen)) {
                return chosen == RING ? CHANGED : EMPTY;
            }
            found = all.value[chosen];
            return 0;
        }

        private int failureOfNew(Caller c) {
            if (house.types.isAbstract(c.t)) {
                return HOLLOW;
            }
            found = c.t;
            return 0;
        }

        /** Of the MEMBER that was LOOKED for. */
        private int failureOfFound(Caller c, int m) {
            if (!house.members.isMember(m)) {
                return LOST;
            }
            if (house.members.has(m, Members.HIDDEN)) {
                return CLOSED;
            }
            return house.members.has(m, Members.STATIC) != c.isStatic ? CHANGED : 0;
        }

        /** Of r, on which what is not STATIC is met. */
        private int failureOfObject(Caller c, int r) {
            int failure = house.failureOfReading(r);
            if (failure != 0) {
                return failure;
            }
            return house.types.isBelow(r, c.t) ? 0 : UNLIKE;
        }
    }
}
