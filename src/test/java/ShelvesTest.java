/** Promises 31 to 37. */
public final class ShelvesTest {
    private static final Due due = new Due("ShelvesTest");

    public static void main(String[] args) {
        kept();
        rows();
        elements();
        copied();
        copyRefusals();
        drunk();
        paid();
        crateRefusals();
        tossed();
        due.end();
    }

    private static void kept() {
        MilkDesk x = new MilkDesk();
        due.each("keep(n, 1, 0, 0, 0)", -1, n -> x.keep(n, 1, 0, 0, 0), -1, 8, Integer.MIN_VALUE);
        due.each("keep(0, n, 0, 0, 0)", -1, n -> x.keep(0, n, 0, 0, 0), -1, 2);
        due.each("keep(0, 1, n, 0, 0)", -1, n -> x.keep(0, 1, n, 0, 0), -1, 7);
        due.each("keep(0, 1, 0, n, 0)", -1, n -> x.keep(0, 1, 0, n, 0), -1, 10000);
        due.each("keep(0, 1, 0, 0, n)", -1, n -> x.keep(0, 1, 0, 0, n), -1, 12);
        due.is("nothing yet", x.crate(0, 0, 0), -11);
        due.is("keep(8, 0, ..)", x.keep(8, 0, 0, 0, 0), -1);
        due.is("a crate", x.keep(0, 1, 0, 9999, 11), 0);
        due.is("held", x.crate(0, 0, 0), 29997);
        due.is("a refused keep", x.keep(0, 1, 0, 10000, 0), -1);
        due.is("held still", x.crate(0, 0, 0), 29997);
        due.is("nothing, the others do not matter", x.keep(0, 0, -5, -5, 99), 0);
        due.is("nothing held", x.crate(0, 0, 0), -11);
        x.row(0, 0, 3);
        due.is("a crate in place of a row", x.keep(0, 1, 1, 4, 2), 0);
        due.is("no row any more", x.put(0, 0, 0), -12);
        due.is("nothing in place of a crate", x.keep(0, 0, 0, 0, 0), 0);
        due.is("nothing tossed", x.toss(0), -11);
        due.is("another shelf", x.put(1, 0, 0), -11);
    }

    private static void rows() {
        MilkDesk x = new MilkDesk();
        due.each("row(n, 0, 1)", -1, n -> x.row(n, 0, 1), -1, 8);
        due.each("row(0, n, 1)", -1, n -> x.row(0, n, 1), -1, 3);
        due.each("row(0, 0, n)", -1, n -> x.row(0, 0, n), 81, Integer.MAX_VALUE);
        due.each("row(0, 0, n)", -14, n -> x.row(0, 0, n), -1, Integer.MIN_VALUE);
        due.is("of no sort, of a size below 0", x.row(0, 3, -1), -1);
        due.is("on no shelf, of a size below 0", x.row(8, 0, -1), -1);
        due.is("nothing held", x.put(0, 0, 0), -11);
        due.is("row(0, 0, 0)", x.row(0, 0, 0), 0);
        due.is("no place", x.put(0, 0, 0), -13);
        due.is("row(0, 2, 80)", x.row(0, 2, 80), 0);
        for (int i = 0; i < 80; i++) {
            due.is("element " + i, x.element(0, i), 0);
            x.put(0, i, i + 1);
        }
        due.is("a refused row", x.row(0, 2, 81), -1);
        due.is("held still", x.element(0, 79), 80);
        x.row(0, 2, 80);
        for (int i = 0; i < 80; i++) {
            due.is("element " + i + " of a new row", x.element(0, i), 0);
        }
        for (int d = 0; d < 8; d++) {
            x.row(d, 0, 1);
            x.put(d, 0, d);
        }
        for (int d = 0; d < 8; d++) {
            due.is("shelf " + d, x.element(d, 0), d);
        }
    }

    private static void put(int sort, int v, long want) {
        MilkDesk x = new MilkDesk();
        x.row(3, sort, 2);
        due.is("put(3, 1, " + v + ")", x.put(3, 1, v), 0);
        due.is("element(3, 1) of sort " + sort, x.element(3, 1), want);
        due.is("element(3, 0)", x.element(3, 0), 0);
    }

    /** 1: IllegalArgumentException, 2: IllegalStateException, 0: nothing. */
    private static int thrown(MilkDesk x, int d, int i) {
        try {
            x.element(d, i);
            return 0;
        } catch (IllegalArgumentException e) {
            return e.getClass() == IllegalArgumentException.class ? 1 : 3;
        } catch (IllegalStateException e) {
            return e.getClass() == IllegalStateException.class ? 2 : 3;
        }
    }

    private static void elements() {
        put(0, 127, 127);
        put(0, 128, -128);
        put(0, 255, -1);
        put(0, 256, 0);
        put(0, -129, 127);
        put(0, Integer.MAX_VALUE, -1);
        put(0, Integer.MIN_VALUE, 0);
        put(1, 32767, 32767);
        put(1, 32768, -32768);
        put(1, 65535, -1);
        put(1, 65536, 0);
        put(1, -32769, 32767);
        put(2, Integer.MAX_VALUE, Integer.MAX_VALUE);
        put(2, Integer.MIN_VALUE, Integer.MIN_VALUE);
        MilkDesk x = new MilkDesk();
        due.each("put(n, 0, 0)", -1, n -> x.put(n, 0, 0), -1, 8);
        due.each("element(n, 0)", 1, n -> thrown(x, n, 0), -1, 8, Integer.MAX_VALUE, Integer.MIN_VALUE);
        due.is("element of nothing", thrown(x, 0, 0), 2);
        x.keep(0, 1, 0, 0, 0);
        due.is("element of a crate", thrown(x, 0, 0), 2);
        due.is("put into a crate", x.put(0, 0, 0), -12);
        due.is("put beside a crate", x.put(0, -1, 0), -12);
        x.row(0, 0, 2);
        due.each("element(0, n)", 2, n -> thrown(x, 0, n), -1, 2, 80, Integer.MAX_VALUE, Integer.MIN_VALUE);
        due.each("put(0, n, 0)", -13, n -> x.put(0, n, 0), -1, 2, 80, Integer.MAX_VALUE, Integer.MIN_VALUE);
        due.is("element(0, 1)", thrown(x, 0, 1), 0);
        x.put(0, 0, 5);
        due.is("no place of a smaller row", x.row(0, 0, 1), 0);
        due.is("beyond its end", thrown(x, 0, 1), 2);
        x.keep(0, 0, 0, 0, 0);
        due.is("element of nothing again", thrown(x, 0, 0), 2);
    }

    private static void copied() {
        MilkDesk x = new MilkDesk();
        Due.fill(x, 0, 1, 1, 2, 3, 4, 5);
        Due.fill(x, 1, 1, 11, 12, 13);
        due.is("copy(0, 2, 1, 0, 3)", x.copy(0, 2, 1, 0, 3), 3);
        elements("all", x, 1, 3, 4, 5);
        due.is("copy(1, 0, 0, 4, 1)", x.copy(1, 0, 0, 4, 1), 1);
        elements("one at the end", x, 0, 1, 2, 3, 4, 3);
        elements("the source", x, 1, 3, 4, 5);
        due.is("onto itself, upward", x.copy(0, 0, 0, 1, 4), 4);
        elements("as they were", x, 0, 1, 1, 2, 3, 4);
        due.is("onto itself, downward", x.copy(0, 1, 0, 0, 4), 4);
        elements("as they were", x, 0, 1, 2, 3, 4, 4);
        due.is("none", x.copy(0, 0, 1, 0, 0), 0);
        due.is("none at the ends", x.copy(0, 5, 1, 3, 0), 0);
        elements("unchanged", x, 1, 3, 4, 5);
        x.row(2, 2, 0);
        x.row(3, 2, 0);
        due.is("of empty rows", x.copy(2, 0, 3, 0, 0), 0);
    }

    private static void elements(String what, MilkDesk x, int d, int... want) {
        for (int i = 0; i < want.length; i++) {
            due.is(what + ", element " + i, x.element(d, i), want[i]);
        }
    }

    private static void copyRefusals() {
        MilkDesk x = new MilkDesk();
        x.row(0, 0, 3);
        x.row(1, 0, 2);
        x.row(2, 1, 3);
        x.row(3, 2, 3);
        x.keep(4, 1, 0, 0, 0);
        due.each("copy(n, 0, 0, 0, 1)", -1, n -> x.copy(n, 0, 0, 0, 1), -1, 8);
        due.each("copy(0, 0, n, 0, 1)", -1, n -> x.copy(0, 0, n, 0, 1), -1, 8);
        due.is("no shelf ahead of nothing held", x.copy(5, 0, 8, 0, 1), -1);
        due.is("from nothing", x.copy(5, 0, 0, 0, 1), -11);
        due.is("to nothing", x.copy(0, 0, 5, 0, 1), -11);
        due.is("from a crate to nothing", x.copy(4, 0, 5, 0, 1), -11);
        due.is("from nothing to a crate", x.copy(5, 0, 4, 0, 1), -11);
        due.is("from a crate", x.copy(4, 0, 0, 0, 1), -12);
        due.is("to a crate", x.copy(0, 0, 4, 0, 1), -12);
        due.is("crates", x.copy(4, 0, 4, 0, 1), -12);
        due.is("bytes to shorts", x.copy(0, 0, 2, 0, 1), -12);
        due.is("ints to shorts, no place", x.copy(3, 9, 2, 9, 1), -12);
        due.each("copy(0, n, 0, 0, 1)", -13, n -> x.copy(0, n, 0, 0, 1), -1, 3, Integer.MAX_VALUE, Integer.MIN_VALUE);
        due.each("copy(0, 0, 1, n, 1)", -13, n -> x.copy(0, 0, 1, n, 1), -1, 2, Integer.MAX_VALUE, Integer.MIN_VALUE);
        due.each("copy(0, 0, 1, 0, n)", -13, n -> x.copy(0, 0, 1, 0, n), 3, -1, Integer.MAX_VALUE, Integer.MIN_VALUE);
        due.each("copy(1, 1, 0, 1, n)", -13, n -> x.copy(1, 1, 0, 1, n), 2, -1, Integer.MAX_VALUE);
        due.is("beyond both ends", x.copy(0, 4, 0, 0, 0), -13);
        due.is("the last ones", x.copy(0, 1, 1, 0, 2), 2);
    }

    private static int crate(int kind, int n, int what, int price) {
        MilkDesk x = new MilkDesk();
        x.keep(2, 1, kind, n, 0);
        return x.crate(2, what, price);
    }

    private static void drunk() {
        int[] of7 = {21, 7, 14, 3, 0, 0, 0};
        int[] of9999 = {29997, 9999, 19998, 4999, 0, 0, 0};
        for (int kind = 0; kind < 7; kind++) {
            due.is("DRUNK of 0, kind " + kind, crate(kind, 0, 0, 5), 0);
            due.is("DRUNK of 7, kind " + kind, crate(kind, 7, 0, 5), of7[kind]);
            due.is("DRUNK of 9999, kind " + kind, crate(kind, 9999, 0, 0), of9999[kind]);
        }
    }

    private static void paid() {
        int[] none = {0, 0, 0, 0, 0, 0, 0};
        int[] of7at150 = {10, 11, 5, 11, 5, 5, 10};
        int[] of7at0 = {0, 1, 0, 1, 0, 0, 0};
        int[] of8at150 = {12, 13, 6, 13, 6, 6, 12};
        int[] most = {99890, 99891, 49945, 99891, 49945, 49945, 99890};
        for (int kind = 0; kind < 7; kind++) {
            due.is("PAID of 0, kind " + kind, crate(kind, 0, 1, 999), none[kind]);
            due.is("PAID of 7 at 150, kind " + kind, crate(kind, 7, 1, 150), of7at150[kind]);
            due.is("PAID of 7 at 0, kind " + kind, crate(kind, 7, 1, 0), of7at0[kind]);
            due.is("PAID of 8 at 150, kind " + kind, crate(kind, 8, 1, 150), of8at150[kind]);
            due.is("PAID of 9999 at 999, kind " + kind, crate(kind, 9999, 1, 999), most[kind]);
        }
    }

    private static void crateRefusals() {
        MilkDesk x = new MilkDesk();
        x.keep(0, 1, 0, 10, 0);
        x.row(1, 0, 1);
        due.each("crate(n, 0, 0)", -1, n -> x.crate(n, 0, 0), -1, 8);
        due.each("crate(0, n, 0)", -1, n -> x.crate(0, n, 0), -1, 2);
        due.each("crate(0, 0, n)", -1, n -> x.crate(0, 0, n), -1, 1000);
        due.each("crate(0, 1, n)", -1, n -> x.crate(0, 1, n), -1, 1000);
        due.is("of nothing", x.crate(2, 0, 0), -11);
        due.is("of nothing at no price", x.crate(2, 0, -1), -1);
        due.is("of a row", x.crate(1, 0, 0), -12);
        due.is("at 999", x.crate(0, 1, 999), 99);
    }

    private static void tossed() {
        MilkDesk x = new MilkDesk();
        int[] want = {11, 11, -15, 11, 11, 42, 111};
        for (int kind = 0; kind < 7; kind++) {
            x.keep(3, 1, kind, 42, 11);
            due.is("kind " + kind, x.toss(3), want[kind]);
            due.is("kind " + kind + " again", x.toss(3), want[kind]);
            x.keep(3, 1, kind, 0, 11);
            due.is("kind " + kind + " without BOTTLES", x.toss(3), -15);
            x.keep(3, 1, kind, 1, 0);
            due.is("kind " + kind + " with one", x.toss(3), kind == 2 ? -15 : kind == 5 ? 1 : kind == 6 ? 100 : 0);
        }
        due.is("still held", x.crate(3, 1, 500), 5);
        due.each("toss(n)", -1, x::toss, -1, 8, Integer.MAX_VALUE);
        due.is("nothing", x.toss(0), -11);
        x.row(0, 0, 1);
        due.is("a row", x.toss(0), -12);
    }
}
