import java.util.Map;
import java.util.Random;
import java.util.TreeMap;

/** Runs of 512 calls, the same ones each time, on Edits13 and on PlainHouse: the answers must be the same. */
public final class ModelTest {
    private static final int RUNS = 1100;
    private static final int CALLS = 512;
    private static final long[] VALUES = {0, 1, -1, 2, 127, 128, 255, 256, 300, 32767, 32768, 65535, 65536,
        16777217, Integer.MAX_VALUE, Integer.MIN_VALUE, 1L << 32, 9007199254740993L, Long.MAX_VALUE, Long.MIN_VALUE};

    private final Random random;
    private final Edits13 x = new Edits13();
    private final PlainHouse y = new PlainHouse();
    /** Of each call the answers that came, to see that the runs reach all of them. */
    private final Map<String, Integer> seen;
    private final int names;
    private final int undos;
    /** How often, of four, METHODS and CALLS have no PARAMETER. */
    private final int bare;
    private int run;
    /** How many calls there were: behind 512 of them all answers are free. */
    private int calls;

    private ModelTest(int run, Map<String, Integer> seen) {
        this.run = run;
        this.seen = seen;
        random = new Random(7919L * run + 13);
        names = 1 + random.nextInt(3);
        undos = random.nextInt(4);
        bare = 1 + random.nextInt(3);
    }

    private int upTo(int most) {
        return random.nextInt(most + 1);
    }

    private int oneOf(int... all) {
        return all[random.nextInt(all.length)];
    }

    /** Mostly a number from 0 to below the bound, seldom one beside them. */
    private int near(int bound) {
        if (random.nextInt(40) == 0) {
            return oneOf(-3, -2, -1, bound, bound + 1, Integer.MAX_VALUE, Integer.MIN_VALUE);
        }
        return bound <= 0 ? 0 : random.nextInt(bound);
    }

    private int aType() {
        return near(y.count(0));
    }

    private int aMember() {
        int m = near(60);
        for (int i = 0; i < 60 && y.member(m, 0) == -1 && random.nextInt(60) != 0; i++) {
            m = random.nextInt(60);
        }
        return m;
    }

    private int aClass() {
        int t = aType();
        for (int i = 0; i < 12 && y.told(t, 0) != 0; i++) {
            t = aType();
        }
        return t;
    }

    private int aFace() {
        int t = aType();
        for (int i = 0; i < 12 && y.told(t, 0) != 1; i++) {
            t = aType();
        }
        return t;
    }

    private int aName() {
        return random.nextInt(50) == 0 ? oneOf(-1, 9, 10) : random.nextInt(names);
    }

    private int aParameter() {
        return random.nextInt(4) < bare ? -2 : aType();
    }

    private long aValue() {
        return random.nextBoolean() ? VALUES[random.nextInt(VALUES.length)] : random.nextLong();
    }

    private int someMarks() {
        return random.nextInt(25) == 0 ? oneOf(-1, 8, 9, 12, 15, 16) : oneOf(0, 0, 0, 0, 1, 1, 2, 2, 3, 3, 4, 5, 6, 8, 8);
    }

    private void due(String call, long got, long want) {
        calls++;
        Due.same("run " + run + " " + call, got, want);
        String name = call.substring(0, call.indexOf('('));
        if (want < 0 && want > -40) {
            seen.merge(name + " " + want, 1, Integer::sum);
        }
    }

    private String told(String name, Object... all) {
        StringBuilder s = new StringBuilder(name).append('(');
        for (int i = 0; i < all.length; i++) {
            s.append(i == 0 ? "" : ", ").append(all[i]);
        }
        return s.append(')').toString();
    }

    private void edit() {
        int a = aType();
        int m = aMember();
        int name = aName();
        int marks = someMarks();
        long v = aValue();
        switch (upTo(17)) {
            case 0: {
                int up = random.nextInt(3) == 0 ? -2 : aClass();
                boolean face = random.nextInt(2) == 0;
                up = face && random.nextInt(10) != 0 ? -2 : up;
                int mm = random.nextInt(3) == 0 ? near(4) : 0;
                due(told("type", face, up, mm), x.type(face, up, mm), y.type(face, up, mm));
                break;
            }
            case 1: {
                int up = random.nextInt(4) == 0 ? -2 : aClass();
                a = aClass();
                due(told("above", a, up), x.above(a, up), y.above(a, up));
                break;
            }
            case 2:
            case 3: {
                int f = aFace();
                due(told("face", a, f), x.face(a, f), y.face(a, f));
                break;
            }
            case 4: {
                int i = near(Math.max(1, y.told(a, 3)));
                due(told("unface", a, i), x.unface(a, i), y.unface(a, i));
                break;
            }
            case 5: {
                int mm = near(random.nextBoolean() ? 1 : 4);
                due(told("marks", a, mm), x.marks(a, mm), y.marks(a, mm));
                break;
            }
            case 6:
            case 7: {
                int kind = near(8);
                due(told("field", a, name, kind, marks, v), x.field(a, name, kind, marks, v), y.field(a, name, kind, marks, v));
                break;
            }
            case 8:
            case 9:
            case 10:
            case 11: {
                int p = aParameter();
                int q = p == -2 && random.nextInt(20) != 0 ? -2 : aParameter();
                int w = (int) v;
                due(told("method", a, name, p, q, marks, w), x.method(a, name, p, q, marks, w), y.method(a, name, p, q, marks, w));
                break;
            }
            case 12:
                due(told("drop", m), x.drop(m), y.drop(m));
                break;
            case 13:
            case 14:
                due(told("mark", m, marks), x.mark(m, marks), y.mark(m, marks));
                break;
            case 15:
                due(told("set", m, v), x.set(m, v), y.set(m, v));
                break;
            case 16: {
                int kind = near(8);
                due(told("retype", m, kind, v), x.retype(m, kind, v), y.retype(m, kind, v));
                break;
            }
            default:
                due(told("move", m, a), x.move(m, a), y.move(m, a));
        }
    }

    private void callers() {
        int c = near(y.count(2));
        int r = aClass();
        int t = aType();
        int n = aName();
        // In some runs many CALLERS are made, so that they become FULL.
        switch (run % 8 == 0 && random.nextBoolean() ? upTo(3) : upTo(11)) {
            case 0:
                due(told("get", t, n), x.get(t, n), y.get(t, n));
                break;
            case 1:
            case 2: {
                int p = aParameter();
                int q = p == -2 && random.nextInt(20) != 0 ? -2 : aParameter();
                due(told("call", t, n, p, q), x.call(t, n, p, q), y.call(t, n, p, q));
                break;
            }
            case 3:
                if (random.nextInt(3) == 0) {
                    due(told("make", t), x.make(t), y.make(t));
                }
                break;
            case 4:
            case 5:
            case 6:
            case 7:
                due(told("meet", c, r), x.meet(c, r), y.meet(c, r));
                break;
            case 8:
            case 9:
                due(told("anew", c, r), x.anew(c, r), y.anew(c, r));
                break;
            default:
                due(told("culprit", c, r), x.culprit(c, r), y.culprit(c, r));
        }
        if (calls < CALLS) {
            due("asked()", x.asked(), y.asked());
        }
    }

    private void whatThereIs() {
        int t = aType();
        int o = aType();
        int m = aMember();
        int c = near(y.count(2));
        switch (upTo(6)) {
            case 0: {
                int what = near(7);
                due(told("caller", c, what), x.caller(c, what), y.caller(c, what));
                break;
            }
            case 1: {
                int what = near(7);
                due(told("told", t, what), x.told(t, what), y.told(t, what));
                break;
            }
            case 2:
                due(told("below", t, o), x.below(t, o), y.below(t, o));
                break;
            case 3: {
                int what = near(6);
                due(told("member", m, what), x.member(m, what), y.member(m, what));
                break;
            }
            case 4:
            case 5:
                t = aClass();
                for (int i = 0; i < 20 && y.member(m, 0) == 0; i++) {
                    m = aMember();
                }
                due(told("selected", t, m), x.selected(t, m), y.selected(t, m));
                break;
            default: {
                int what = near(4);
                due(told("count", what), x.count(what), y.count(what));
            }
        }
        if (calls < CALLS) {
            due("digest()", x.digest(), y.digest());
        }
    }

    private void undo() {
        int times = random.nextInt(25) == 0 ? upTo(40) : upTo(2);
        for (int i = 0; i <= times && calls < CALLS; i++) {
            due("undo()", x.undo(), y.undo());
        }
    }

    /** Some TYPES to begin with, without which most calls are BAD. */
    private void begin() {
        int types = 2 + random.nextInt(9);
        for (int i = 0; i < types; i++) {
            boolean face = random.nextInt(2) == 0;
            int up = face || i == 0 || random.nextInt(4) == 0 ? -2 : aClass();
            due(told("type", face, up, 0), x.type(face, up, 0), y.type(face, up, 0));
        }
    }

    private void step() {
        int way = random.nextInt(100);
        if (way < 45) {
            edit();
        } else if (way < 85) {
            callers();
        } else if (way < 85 + undos) {
            undo();
        } else {
            whatThereIs();
        }
    }

    private static void mustBeSeen(Map<String, Integer> seen) {
        String[] all = {"type -1", "type -3", "above -1", "above -4", "face -1", "face -4", "unface -1", "marks -1",
            "field -1", "field -3", "method -1", "method -3", "drop -1", "mark -1", "set -1", "retype -1", "move -1",
            "undo -2", "get -1", "get -3", "get -11", "call -1", "call -3", "call -11", "call -12",
            "make -1", "make -3", "make -13", "meet -1", "meet -31", "meet -32", "meet -33", "meet -34", "meet -35",
            "meet -36", "meet -37", "meet -38", "meet -39", "anew -1", "anew -2", "anew -11", "anew -12", "anew -13",
            "anew -31", "anew -32", "anew -34", "anew -36", "anew -38", "culprit -1", "culprit -2",
            "caller -1", "told -1", "below -1", "member -1", "selected -1", "selected -2", "selected -4", "count -1"};
        for (String one : all) {
            Due.same("how often the runs reached " + one + ": at least once", Math.min(1, seen.getOrDefault(one, 0)), 1);
        }
    }

    public static void main(String[] args) {
        Map<String, Integer> seen = new TreeMap<>();
        for (int run = 0; run < RUNS; run++) {
            ModelTest test = new ModelTest(run, seen);
            test.begin();
            while (test.calls < CALLS) {
                test.step();
            }
        }
        mustBeSeen(seen);
        if (args.length > 0) {
            System.out.println(seen);
        }
        Due.end();
    }
}
