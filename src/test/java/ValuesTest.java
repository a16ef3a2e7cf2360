import java.math.BigInteger;
import java.util.ArrayList;
import java.util.List;

/** Part 1: how a value is told by a long, and what WIDENS to what; 28: h wraps around. */
public final class ValuesTest {
    private static final int NONE = Due.NONE;
    private static final int STATIC = Due.STATIC, FINAL = Due.FINAL;
    private static final long LEAST = Long.MIN_VALUE, GREATEST = Long.MAX_VALUE;
    private static final long INT_LEAST = Integer.MIN_VALUE, INT_GREATEST = Integer.MAX_VALUE;

    /** Of each KIND: a long, and what comes out of the value that it tells. */
    private static final long[][][] TOLD = {
        {{0, 0}, {1, 1}, {-1, 1}, {2, 1}, {256, 1}, {1L << 32, 1}, {LEAST, 1}, {GREATEST, 1}},
        {{0, 0}, {127, 127}, {128, -128}, {-128, -128}, {-129, 127}, {255, -1}, {256, 0}, {300, 44}, {-1, -1},
            {LEAST, 0}, {GREATEST, -1}, {LEAST + 128, -128}},
        {{0, 0}, {1, 1}, {-1, 65535}, {32768, 32768}, {65535, 65535}, {65536, 0}, {-65536, 0}, {-65535, 1},
            {LEAST, 0}, {GREATEST, 65535}},
        {{0, 0}, {32767, 32767}, {32768, -32768}, {-32768, -32768}, {-32769, 32767}, {65535, -1}, {65536, 0},
            {LEAST, 0}, {GREATEST, -1}},
        {{0, 0}, {INT_GREATEST, INT_GREATEST}, {INT_GREATEST + 1, INT_LEAST}, {INT_LEAST, INT_LEAST},
            {INT_LEAST - 1, INT_GREATEST}, {(1L << 32) - 1, -1}, {1L << 32, 0}, {(1L << 32) + 7, 7}, {LEAST, 0},
            {GREATEST, -1}},
        {{0, 0}, {-1, -1}, {LEAST, LEAST}, {GREATEST, GREATEST}, {1L << 32, 1L << 32}, {LEAST + 1, LEAST + 1}},
        {{0, 0}, {-1, -1}, {16777216, 16777216}, {16777217, 16777216}, {16777218, 16777218}, {16777219, 16777220},
            {-16777217, -16777216}, {INT_GREATEST, 1L << 31}, {INT_LEAST, INT_LEAST}, {LEAST, LEAST},
            {LEAST + 1, LEAST}, {GREATEST, GREATEST}, {GREATEST - (1L << 38) + 1, GREATEST},
            {GREATEST - (1L << 38), GREATEST - (1L << 39) + 1}},
        {{0, 0}, {-1, -1}, {1L << 53, 1L << 53}, {(1L << 53) + 1, 1L << 53}, {(1L << 53) + 2, (1L << 53) + 2},
            {(1L << 53) + 3, (1L << 53) + 4}, {-(1L << 53) - 1, -(1L << 53)}, {INT_GREATEST, INT_GREATEST},
            {LEAST, LEAST}, {LEAST + 1, LEAST}, {GREATEST, GREATEST}, {GREATEST - 1, GREATEST},
            {GREATEST - 511, GREATEST}, {GREATEST - 512, GREATEST - 1023}}};

    private static void meets(String what, Edits13 x, long due) {
        Due.same(what, x.meet(0, 0), 0);
        Due.same(what + ", ASKED", x.asked(), due);
    }

    private static Edits13 withField(int kind, int marks, long v) {
        Edits13 x = new Edits13();
        Due.plainClass(x);
        Due.same("7: the FIELD", x.field(0, 1, kind, marks, v), 0);
        return x;
    }

    /** A value comes by field(), by set(), by retype(), and is kept. */
    private static void valuesOfFields() {
        for (int kind = 0; kind < TOLD.length; kind++) {
            for (long[] one : TOLD[kind]) {
                String what = "KIND " + kind + " of " + one[0];
                Edits13 x = withField(kind, 0, one[0]);
                Due.same("15: " + what, x.get(0, 1), 0);
                meets("7: " + what, x, one[1]);
                Due.same("28: by field(), " + what, x.digest(), digestOfField(kind, 0, one[1], 2));
                x = withField(kind, 0, one[1] == 0 ? 1 : 0);
                x.get(0, 1);
                Due.same("11: " + what, x.set(0, one[0]), 1);
                meets("11: " + what, x, one[1]);
                Due.same("28: by set(), " + what, x.digest(), digestOfField(kind, 0, one[1], 3));
                x = withField((kind + 1) % 8, 0, 0);
                Due.same("12: " + what, x.retype(0, kind, one[0]), 1);
                x.get(0, 1);
                meets("12: " + what, x, one[1]);
                Due.same("28: by retype(), " + what, x.digest(), digestOfField(kind, 0, one[1], 3));
                x = withField(kind, STATIC | FINAL, one[0]);
                x.get(0, 1);
                x.drop(0);
                meets("15: kept, " + what, x, one[1]);
            }
        }
    }

    /** By hand: a CLASS 0 with a FIELD 0 of NAME 1. */
    private static long digestOfField(int kind, int marks, long value, int edits) {
        return digestOf(0, NONE, 0, 0, NONE, NONE, NONE, 0, 0, 0, 1, marks, kind, NONE, value, edits);
    }

    private static long digestOf(long... all) {
        List<Long> list = new ArrayList<>();
        for (long v : all) {
            list.add(v);
        }
        return digestOf(list);
    }

    /** With numbers that never wrap around, brought to 64 bits at the end. */
    private static long digestOf(List<Long> all) {
        BigInteger h = BigInteger.valueOf(17);
        for (long v : all) {
            h = h.multiply(BigInteger.valueOf(31)).add(BigInteger.valueOf(v));
        }
        return h.longValue();
    }

    /** 8: "a value, an int"; 11: "of a METHOD its lowest 32 bits". */
    private static void valuesOfMethods() {
        int[] ints = {0, 1, -1, Integer.MIN_VALUE, Integer.MAX_VALUE};
        for (int v : ints) {
            Edits13 x = new Edits13();
            Due.plainClass(x);
            Due.plainMethod(x, 0, 1, 0, v);
            x.call(0, 1, NONE, NONE);
            meets("8: the value " + v, x, v);
            Due.same("28: the value " + v, x.digest(),
                digestOf(0, NONE, 0, 0, NONE, NONE, NONE, 0, 1, 0, 1, 0, NONE, NONE, v, 2));
        }
        for (long[] one : TOLD[Houses.INTS]) {
            Edits13 x = new Edits13();
            Due.plainClass(x);
            Due.plainMethod(x, 0, 1, 0, 9);
            x.call(0, 1, NONE, NONE);
            Due.same("11: of a METHOD, " + one[0], x.set(0, one[0]), 1);
            meets("11: of a METHOD, " + one[0], x, one[1]);
            Due.same("28: of a METHOD, " + one[0], x.digest(),
                digestOf(0, NONE, 0, 0, NONE, NONE, NONE, 0, 1, 0, 1, 0, NONE, NONE, one[1], 3));
        }
    }

    /** What Java itself makes of it: the value as it is, widened, and cast to long. */
    private static long widened(int from, long v, int to) {
        float f;
        double d;
        switch (from) {
            case 6:
                f = (float) v;
                d = f;
                break;
            case 7:
                f = 0;
                d = (double) v;
                break;
            default: {
                long whole = from == 1 ? (byte) v : from == 2 ? (char) v : from == 3 ? (short) v : from == 4 ? (int) v : v;
                f = (float) whole;
                d = (double) whole;
                return to == 6 ? (long) f : to == 7 ? (long) d : whole;
            }
        }
        return to == 6 ? (long) f : (long) d;
    }

    /** "WIDENS: each KIND to itself; bytes to shorts; bytes, chars, shorts to ints; these and ints to longs; .." */
    private static boolean widens(int from, int to) {
        boolean[][] all = new boolean[8][8];
        for (int kind = 0; kind < 8; kind++) {
            all[kind][kind] = true;
        }
        all[1][3] = true;
        for (int wide = 4; wide < 8; wide++) {
            for (int narrow = 1; narrow < wide; narrow++) {
                all[narrow][wide] = true;
            }
        }
        return all[from][to];
    }

    /** 18: "7 CAST its KIND does not WIDEN to that which was kept; else what comes out as that, told as a long". */
    private static void widening() {
        for (int from = 0; from < 8; from++) {
            for (int to = 0; to < 8; to++) {
                for (long[] one : TOLD[from]) {
                    String what = "18: " + one[0] + " of KIND " + from + " as KIND " + to;
                    Edits13 x = withField(to, 0, 0);
                    x.get(0, 1);
                    x.retype(0, from, one[0]);
                    if (!widens(from, to)) {
                        Due.same(what, x.meet(0, 0), Due.CAST);
                        Due.same(what + ", nothing ASKED", x.asked(), 0);
                    } else {
                        meets(what, x, from == 0 ? one[1] : widened(from, one[0], to));
                    }
                }
            }
        }
    }

    /** 28: each number of each TYPE and MEMBER counts, in its place; h wraps around, as it has 64 bits. */
    private static void digestOfAFullHouse() {
        List<Long> all = new ArrayList<>();
        Edits13 x = new Edits13();
        Edits13 twin = new Edits13();
        Edits13 third = new Edits13();
        Houses.full(x, true);
        Houses.full(twin, true);
        Houses.full(third, true);
        for (int t = 0; t < 12; t++) {
            for (int what = 0; what < 7; what++) {
                all.add((long) twin.told(t, what));
            }
        }
        for (int m = 0; m < 60; m++) {
            all.add((long) m);
            for (int what = 0; what < 6; what++) {
                all.add((long) third.member(m, what));
            }
            all.add((long) m);
        }
        all.add(72L);
        Due.same("28: of a full house", x.digest(), digestOf(all));
    }

    /** 28: "by numbers": a MEMBER that comes later in a lower place counts ahead of the others. */
    private static void digestByNumbers() {
        Edits13 x = new Edits13();
        Due.plainClass(x);
        x.field(0, 1, Houses.BYTES, 0, 1L);
        x.field(0, 2, Houses.BYTES, 0, 2L);
        x.drop(0);
        long without = digestOf(0, NONE, 0, 0, NONE, NONE, NONE, 1, 0, 0, 2, 0, 1, NONE, 2, 4);
        Due.same("28: the free number does not count", x.digest(), without);
        x.field(0, 3, Houses.LONGS, 0, LEAST);
        Due.same("28: by numbers", x.digest(), digestOf(0, NONE, 0, 0, NONE, NONE, NONE,
            0, 0, 0, 3, 0, 5, NONE, LEAST, 1, 0, 0, 2, 0, 1, NONE, 2, 5));
        x.undo();
        Due.same("28: undo", x.digest(), without);
    }

    public static void main(String[] args) {
        valuesOfFields();
        valuesOfMethods();
        widening();
        digestOfAFullHouse();
        digestByNumbers();
        Due.end();
    }
}
