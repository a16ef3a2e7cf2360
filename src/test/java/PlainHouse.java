import java.util.ArrayList;
import java.util.List;
import java.util.TreeMap;

/**
 * The document in its plainest form, to compare Edits13 with: a whole copy of the house behind each EDIT,
 * values as the Java values that they are, and every search as a plain recursion.
 */
final class PlainHouse {
    static final int BAD = -1, NONE = -2, FULL = -3, RING = -4;

    static final class T {
        boolean face;
        int above;
        int marks;
        List<Integer> faces = new ArrayList<>();

        T copy() {
            T t = new T();
            t.face = face;
            t.above = above;
            t.marks = marks;
            t.faces = new ArrayList<>(faces);
            return t;
        }
    }

    static final class M {
        boolean method;
        int type;
        int name;
        int marks;
        int kind = NONE;
        List<Integer> parameters = new ArrayList<>();
        Object value;

        M copy() {
            M m = new M();
            m.method = method;
            m.type = type;
            m.name = name;
            m.marks = marks;
            m.kind = kind;
            m.parameters = new ArrayList<>(parameters);
            m.value = value;
            return m;
        }

        boolean is(int mark) {
            return (marks & mark) != 0;
        }

        boolean like(M o) {
            return method == o.method && name == o.name && (!method || parameters.equals(o.parameters));
        }
    }

    static final class C {
        int sort;
        int t;
        int n = NONE;
        List<Integer> arguments = new ArrayList<>();
        List<Integer> parameters = new ArrayList<>();
        int kind;
        boolean fixed;
        boolean onFace;
        Object kept;
        int made;
    }

    /** What there is behind some number of EDITS. */
    static final class S {
        List<T> types = new ArrayList<>();
        TreeMap<Integer, M> members = new TreeMap<>();

        S copy() {
            S s = new S();
            for (T t : types) {
                s.types.add(t.copy());
            }
            members.forEach((k, m) -> s.members.put(k, m.copy()));
            return s;
        }

        boolean isType(int t) {
            return t >= 0 && t < types.size();
        }

        boolean isClass(int t) {
            return isType(t) && !types.get(t).face;
        }

        boolean isFace(int t) {
            return isType(t) && types.get(t).face;
        }

        boolean isBelow(int t, int other) {
            if (t == other) {
                return true;
            }
            T it = types.get(t);
            if (it.above != NONE && isBelow(it.above, other)) {
                return true;
            }
            for (int f : it.faces) {
                if (isBelow(f, other)) {
                    return true;
                }
            }
            return false;
        }

        M own(int t, M like, boolean pass) {
            for (M m : members.values()) {
                if (m.type == t && m.like(like) && !(pass && m.is(4))) {
                    return m;
                }
            }
            return null;
        }

        M look(int t, M like, boolean pass) {
            M found = own(t, like, pass);
            T it = types.get(t);
            if (found == null && like.method && it.above != NONE) {
                found = look(it.above, like, pass);
            }
            for (int f : it.faces) {
                if (found == null) {
                    found = look(f, like, pass);
                }
            }
            if (found == null && !like.method && it.above != NONE) {
                found = look(it.above, like, pass);
            }
            return found;
        }

        boolean open(M m) {
            return m != null && !m.is(1) && !m.is(4);
        }

        /** The number, NONE: nothing or ABSTRACT, RING: it CLASHES. */
        int select(int r, M like) {
            for (int c = r; c != NONE; c = types.get(c).above) {
                M m = own(c, like, false);
                if (open(m)) {
                    return m.is(8) ? NONE : numberOf(m);
                }
            }
            List<Integer> having = new ArrayList<>();
            for (int f = 0; f < types.size(); f++) {
                if (types.get(f).face && isBelow(r, f) && open(own(f, like, false))) {
                    having.add(f);
                }
            }
            List<Integer> solid = new ArrayList<>();
            for (int f : having) {
                boolean least = true;
                for (int g : having) {
                    least &= g == f || !isBelow(g, f);
                }
                if (least && !own(f, like, false).is(8)) {
                    solid.add(f);
                }
            }
            return solid.isEmpty() ? NONE : solid.size() > 1 ? RING : numberOf(own(solid.get(0), like, false));
        }

        int numberOf(M m) {
            for (int k : members.keySet()) {
                if (members.get(k) == m) {
                    return k;
                }
            }
            throw new IllegalStateException();
        }

        int read(int t) {
            T it = types.get(t);
            int failure = it.above == NONE ? 0 : read(it.above);
            for (int f : it.faces) {
                failure = failure != 0 ? failure : read(f);
            }
            if (failure != 0 || it.above == NONE) {
                return failure;
            }
            if ((types.get(it.above).marks & 2) != 0) {
                return 1;
            }
            for (M m : members.values()) {
                for (int c = it.above; m.method && m.type == t && open(m) && c != NONE; c = types.get(c).above) {
                    M up = own(c, m, false);
                    if (open(up) && up.is(2)) {
                        return 2;
                    }
                }
            }
            return 0;
        }
    }

    private final List<S> behind = new ArrayList<>();
    private final List<C> callers = new ArrayList<>();
    private long asked = 0;

    PlainHouse() {
        behind.add(new S());
    }

    private S now() {
        return behind.get(behind.size() - 1);
    }

    private int edits() {
        return behind.size() - 1;
    }

    private boolean edited(S s) {
        if (edits() >= 120) {
            return false;
        }
        behind.add(s);
        return true;
    }

    private static boolean in(int n, int from, int to) {
        return n >= from && n <= to;
    }

    private static List<Integer> list(int a, int b) {
        List<Integer> l = new ArrayList<>();
        if (a != NONE) {
            l.add(a);
        }
        if (b != NONE) {
            l.add(b);
        }
        return l;
    }

    private static boolean areTypes(S s, int a, int b) {
        return !(a == NONE && b != NONE) && (a == NONE || s.isType(a)) && (b == NONE || s.isType(b));
    }

    static Object valueOf(int kind, long v) {
        switch (kind) {
            case 0: return v != 0;
            case 1: return (byte) v;
            case 2: return (char) v;
            case 3: return (short) v;
            case 4: return (int) v;
            case 5: return v;
            case 6: return (float) v;
            default: return (double) v;
        }
    }

    static long told(Object v) {
        if (v instanceof Boolean) {
            return (Boolean) v ? 1 : 0;
        }
        if (v instanceof Character) {
            return (Character) v;
        }
        if (v instanceof Float) {
            return (long) (float) (Float) v;
        }
        if (v instanceof Double) {
            return (long) (double) (Double) v;
        }
        return ((Number) v).longValue();
    }

    /** The value widened to a KIND, or null. */
    static Object widened(Object v, int from, int to) {
        if (from == to) {
            return v;
        }
        String[] wider = {"", "34567", "4567", "4567", "567", "67", "7", ""};
        if (wider[from].indexOf('0' + to) < 0) {
            return null;
        }
        Number n = v instanceof Character ? Integer.valueOf((Character) v) : (Number) v;
        switch (to) {
            case 3: return n.shortValue();
            case 4: return n.intValue();
            case 5: return n.longValue();
            case 6: return n.floatValue();
            default: return n.doubleValue();
        }
    }

    int type(boolean face, int above, int marks) {
        S s = now().copy();
        if (!in(marks, 0, 3) || above != NONE && (face || !s.isClass(above))) {
            return BAD;
        }
        T t = new T();
        t.face = face;
        t.above = above;
        t.marks = marks;
        s.types.add(t);
        return s.types.size() > 12 || !edited(s) ? FULL : s.types.size() - 1;
    }

    int above(int type, int above) {
        S s = now().copy();
        if (!s.isClass(type) || above != NONE && !s.isClass(above)) {
            return BAD;
        }
        if (above != NONE && s.isBelow(above, type)) {
            return RING;
        }
        s.types.get(type).above = above;
        return edited(s) ? 1 : FULL;
    }

    int face(int type, int face) {
        S s = now().copy();
        if (!s.isType(type) || !s.isFace(face)) {
            return BAD;
        }
        List<Integer> faces = s.types.get(type).faces;
        if (faces.contains(face) || faces.size() == 3) {
            return BAD;
        }
        if (s.isBelow(face, type)) {
            return RING;
        }
        faces.add(face);
        return edited(s) ? faces.size() : FULL;
    }

    int unface(int type, int i) {
        S s = now().copy();
        if (!s.isType(type) || !in(i, 0, s.types.get(type).faces.size() - 1)) {
            return BAD;
        }
        s.types.get(type).faces.remove(i);
        return edited(s) ? s.types.get(type).faces.size() : FULL;
    }

    int marks(int type, int m) {
        S s = now().copy();
        if (!s.isType(type) || !in(m, 0, 3)) {
            return BAD;
        }
        int was = s.types.get(type).marks;
        s.types.get(type).marks = m;
        return edited(s) ? was : FULL;
    }

    private static boolean marksFit(S s, M m, int marks) {
        if (m.method) {
            return in(marks, 0, 15) && ((marks & 8) == 0 || (marks & 7) == 0);
        }
        return in(marks, 0, 7) && (s.isClass(m.type) || (marks & 1) != 0);
    }

    private int memberComes(S s, M m) {
        if (!marksFit(s, m, m.marks) || s.own(m.type, m, false) != null) {
            return BAD;
        }
        int number = 0;
        while (s.members.containsKey(number)) {
            number++;
        }
        s.members.put(number, m);
        return number >= 60 || !edited(s) ? FULL : number;
    }

    int field(int type, int name, int kind, int marks, long v) {
        S s = now().copy();
        if (!s.isType(type) || !in(name, 0, 9) || !in(kind, 0, 7)) {
            return BAD;
        }
        M m = new M();
        m.type = type;
        m.name = name;
        m.kind = kind;
        m.marks = marks;
        m.value = valueOf(kind, v);
        return memberComes(s, m);
    }

    int method(int type, int name, int a, int b, int marks, int v) {
        S s = now().copy();
        if (!s.isType(type) || !in(name, 0, 9) || !areTypes(s, a, b)) {
            return BAD;
        }
        M m = new M();
        m.method = true;
        m.type = type;
        m.name = name;
        m.parameters = list(a, b);
        m.marks = marks;
        m.value = v;
        return memberComes(s, m);
    }

    int drop(int member) {
        S s = now().copy();
        if (s.members.remove(member) == null) {
            return BAD;
        }
        return edited(s) ? 1 : FULL;
    }

    int mark(int member, int marks) {
        S s = now().copy();
        M m = s.members.get(member);
        if (m == null || !marksFit(s, m, marks)) {
            return BAD;
        }
        int was = m.marks;
        m.marks = marks;
        return edited(s) ? was : FULL;
    }

    int set(int member, long v) {
        S s = now().copy();
        M m = s.members.get(member);
        if (m == null) {
            return BAD;
        }
        m.value = m.method ? (Object) (int) v : valueOf(m.kind, v);
        return edited(s) ? 1 : FULL;
    }

    int retype(int field, int kind, long v) {
        S s = now().copy();
        M m = s.members.get(field);
        if (m == null || m.method || !in(kind, 0, 7)) {
            return BAD;
        }
        m.kind = kind;
        m.value = valueOf(kind, v);
        return edited(s) ? 1 : FULL;
    }

    int move(int member, int type) {
        S s = now().copy();
        M m = s.members.get(member);
        if (m == null || !s.isType(type) || m.type == type || s.own(type, m, false) != null
            || s.isFace(type) && !m.method && !m.is(1)) {
            return BAD;
        }
        m.type = type;
        return edited(s) ? 1 : FULL;
    }

    int undo() {
        if (edits() == 0) {
            return NONE;
        }
        behind.remove(edits());
        return edits();
    }

    int get(int type, int name) {
        C c = new C();
        c.sort = 0;
        c.t = type;
        c.n = name;
        return now().isType(type) && in(name, 0, 9) ? keep(c) : BAD;
    }

    int call(int type, int name, int a, int b) {
        C c = new C();
        c.sort = 1;
        c.t = type;
        c.n = name;
        c.arguments = list(a, b);
        return now().isType(type) && in(name, 0, 9) && areTypes(now(), a, b) ? keep(c) : BAD;
    }

    int make(int type) {
        C c = new C();
        c.sort = 2;
        c.t = type;
        return now().isType(type) ? keep(c) : BAD;
    }

    private int keep(C c) {
        if (callers.size() == 24) {
            return FULL;
        }
        int fault = fault(c);
        if (fault != 0) {
            return -10 - fault;
        }
        c.made = edits();
        callers.add(c);
        return callers.size() - 1;
    }

    private static M pattern(C c) {
        M like = new M();
        like.method = c.sort == 1;
        like.name = c.n;
        like.parameters = c.parameters;
        return like;
    }

    private int fault(C c) {
        S s = now();
        if (c.sort == 2) {
            return s.isFace(c.t) || (s.types.get(c.t).marks & 1) != 0 ? 3 : 0;
        }
        if (c.sort == 0) {
            M m = s.look(c.t, pattern(c), true);
            if (m == null) {
                return 1;
            }
            c.kind = m.kind;
            c.fixed = m.is(1);
            c.kept = m.is(1) && m.is(2) ? m.value : null;
            return 0;
        }
        List<M> fit = new ArrayList<>();
        for (M m : s.members.values()) {
            if (m.method && m.name == c.n && !m.is(4) && goInto(s, c.arguments, m.parameters)
                && s.look(c.t, m, false) == m) {
                fit.add(m);
            }
        }
        M best = null;
        for (M m : fit) {
            if (fit.stream().allMatch(o -> goInto(s, m.parameters, o.parameters))) {
                best = m;
            }
        }
        if (best == null) {
            return fit.isEmpty() ? 1 : 2;
        }
        c.parameters = best.parameters;
        c.onFace = s.isFace(c.t);
        c.fixed = best.is(1);
        return 0;
    }

    private static boolean goInto(S s, List<Integer> arguments, List<Integer> parameters) {
        boolean all = arguments.size() == parameters.size();
        for (int i = 0; all && i < arguments.size(); i++) {
            all = s.isBelow(arguments.get(i), parameters.get(i));
        }
        return all;
    }

    /** A FAILURE as an Integer, or what it is as a Long. */
    private static Object met(S s, C c, int r) {
        if (!s.isType(c.t) || !c.parameters.stream().allMatch(s::isType)) {
            return 3;
        }
        if (c.kept != null) {
            return told(c.kept);
        }
        int failure = s.read(c.t);
        if (failure != 0) {
            return failure;
        }
        if (c.sort == 2) {
            return s.isClass(c.t) && (s.types.get(c.t).marks & 1) != 0 ? (Object) 9 : (Object) (long) c.t;
        }
        if (c.sort == 1 && s.isFace(c.t) != c.onFace) {
            return 5;
        }
        M m = s.look(c.t, pattern(c), false);
        if (m == null) {
            return 3;
        }
        if (m.is(4)) {
            return 4;
        }
        if (m.is(1) != c.fixed) {
            return 5;
        }
        if (!m.is(1)) {
            failure = s.read(r);
            if (failure != 0) {
                return failure;
            }
            if (!s.isBelow(r, c.t)) {
                return 6;
            }
        }
        if (c.sort == 0) {
            Object v = widened(m.value, m.kind, c.kind);
            return v == null ? (Object) 7 : (Object) told(v);
        }
        int chosen = m.is(1) ? s.numberOf(m) : s.select(r, pattern(c));
        return chosen == NONE ? (Object) 8 : chosen == RING ? (Object) 5 : (Object) told(s.members.get(chosen).value);
    }

    private int tell(Object met) {
        if (met instanceof Integer) {
            return -30 - (Integer) met;
        }
        asked = (Long) met;
        return 0;
    }

    private boolean mayMeet(int caller, int r) {
        return in(caller, 0, callers.size() - 1) && now().isClass(r);
    }

    int meet(int caller, int r) {
        return mayMeet(caller, r) ? tell(met(now(), callers.get(caller), r)) : BAD;
    }

    long asked() {
        return asked;
    }

    int anew(int caller, int r) {
        if (!mayMeet(caller, r)) {
            return BAD;
        }
        C old = callers.get(caller);
        if (!now().isType(old.t) || !old.arguments.stream().allMatch(now()::isType)) {
            return NONE;
        }
        C c = new C();
        c.sort = old.sort;
        c.t = old.t;
        c.n = old.n;
        c.arguments = old.arguments;
        int fault = fault(c);
        return fault != 0 ? -10 - fault : tell(met(now(), c, r));
    }

    int culprit(int caller, int r) {
        if (!mayMeet(caller, r)) {
            return BAD;
        }
        C c = callers.get(caller);
        if (edits() < c.made) {
            return NONE;
        }
        if (!behind.get(c.made).isClass(r)) {
            return BAD;
        }
        Object first = met(behind.get(c.made), c, r);
        for (int i = c.made + 1; i <= edits(); i++) {
            if (!behind.get(i).isClass(r) || !met(behind.get(i), c, r).equals(first)) {
                return i;
            }
        }
        return 0;
    }

    private static int at(List<Integer> l, int i) {
        return i < l.size() ? l.get(i) : NONE;
    }

    int caller(int caller, int what) {
        if (!in(caller, 0, callers.size() - 1) || !in(what, 0, 6)) {
            return BAD;
        }
        C c = callers.get(caller);
        int[] all = {c.sort, c.t, c.n, at(c.parameters, 0), at(c.parameters, 1), c.kept != null ? 1 : 0, c.made};
        return all[what];
    }

    int told(int type, int what) {
        if (!now().isType(type) || !in(what, 0, 6)) {
            return BAD;
        }
        T t = now().types.get(type);
        int[] all = {t.face ? 1 : 0, t.above, t.marks, t.faces.size(), at(t.faces, 0), at(t.faces, 1), at(t.faces, 2)};
        return all[what];
    }

    int below(int type, int other) {
        if (!now().isType(type) || !now().isType(other)) {
            return BAD;
        }
        return now().isBelow(type, other) ? 1 : 0;
    }

    int member(int number, int what) {
        M m = now().members.get(number);
        if (m == null || !in(what, 0, 5)) {
            return BAD;
        }
        int[] all = {m.method ? 1 : 0, m.type, m.name, m.marks,
            m.method ? at(m.parameters, 0) : m.kind, at(m.parameters, 1)};
        return all[what];
    }

    int selected(int type, int method) {
        M m = now().members.get(method);
        return !now().isClass(type) || m == null || !m.method ? BAD : now().select(type, m);
    }

    int count(int what) {
        int[] all = {now().types.size(), now().members.size(), callers.size(), edits()};
        return in(what, 0, 3) ? all[what] : BAD;
    }

    long digest() {
        List<Long> all = new ArrayList<>();
        for (int t = 0; t < now().types.size(); t++) {
            for (int what = 0; what < 7; what++) {
                all.add((long) told(t, what));
            }
        }
        for (int k : now().members.keySet()) {
            all.add((long) k);
            for (int what = 0; what < 6; what++) {
                all.add((long) member(k, what));
            }
            all.add(told(now().members.get(k).value));
        }
        all.add((long) edits());
        long h = 17;
        for (long v : all) {
            h = 31 * h + v;
        }
        return h;
    }
}
