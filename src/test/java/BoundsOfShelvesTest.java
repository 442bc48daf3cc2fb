/** The sentences that name a bound: crates, rows, shelves. Promises 31 to 37. */
public final class BoundsOfShelvesTest {
    private static final Due due = new Due("BoundsOfShelvesTest");
    private static final int MILK = 0;
    private static final int THIRD = 1;
    private static final int DRY = 2;
    private static final int OVER = 3;
    private static final int WARM = 4;
    private static final int FROZEN = 5;
    private static final int UNMET = 6;
    private static final int LEAST = Integer.MIN_VALUE;
    private static final int MOST = Integer.MAX_VALUE;

    public static void main(String[] args) {
        kinds();
        drunk();
        paid();
        shelves();
        rows();
        keptBits();
        refusals();
        keep();
        row();
        put();
        element();
        copy();
        overlaps();
        crate();
        toss();
        due.end();
    }

    private static int worth(int kind, int bottles, int what, int price) {
        MilkDesk x = new MilkDesk();
        due.is("keep of kind " + kind, x.keep(7, 1, kind, bottles, 11), 0);
        return x.crate(7, what, price);
    }

    private static void kinds() {
        due.sentence("MILK is in CRATES, each of a KIND: 0 MILK; 1 THIRD under MILK; 2 DRY under MILK;");
        MilkDesk x = new MilkDesk();
        due.range("a KIND", -1, 0, 6, n -> x.keep(0, 1, n, 1, 0));
        for (int kind = 0; kind <= 6; kind++) {
            due.is("kind " + kind, x.keep(0, 1, kind, 1, 0), 0);
        }
        due.sentence("3 OVER under THIRD; 4 WARM under THIRD; 5 FROZEN under THIRD; 6 UNMET under THIRD;");
        int[] thrown = {3, 3, -15, 3, 3, 9, 103};
        int[] drunk = {27, 9, 18, 4, 0, 0, 0};
        for (int kind = 0; kind <= 6; kind++) {
            x.keep(0, 1, kind, 9, 3);
            due.is("the FAILURE of kind " + kind, x.toss(0), thrown[kind]);
            due.is("DRUNK of kind " + kind, x.crate(0, 0, 0), drunk[kind]);
        }
    }

    private static void drunk(int kind, int... want) {
        int[] bottles = {0, 1, 2, 3, 9998, 9999};
        for (int k = 0; k < bottles.length; k++) {
            due.is("DRUNK of " + bottles[k], worth(kind, bottles[k], 0, 0), want[k]);
            due.is("DRUNK at a PRICE of 999", worth(kind, bottles[k], 0, 999), want[k]);
        }
    }

    private static void drunk() {
        due.sentence("MILK three a bottle; THIRD one; DRY two a bottle;");
        drunk(MILK, 0, 3, 6, 9, 29994, 29997);
        drunk(THIRD, 0, 1, 2, 3, 9998, 9999);
        drunk(DRY, 0, 2, 4, 6, 19996, 19998);
        due.sentence("OVER half of a THIRD's (cut); WARM, FROZEN, UNMET none.");
        drunk(OVER, 0, 0, 1, 1, 4999, 4999);
        drunk(WARM, 0, 0, 0, 0, 0, 0);
        drunk(FROZEN, 0, 0, 0, 0, 0, 0);
        drunk(UNMET, 0, 0, 0, 0, 0, 0);
    }

    /** At 0, at 1 and at 999 pence for 100, of each of these many bottles. */
    private static void paid(int kind, int bottles, int at0, int at1, int at999) {
        due.is("PAID of " + bottles + " at 0", worth(kind, bottles, 1, 0), at0);
        due.is("PAID of " + bottles + " at 1", worth(kind, bottles, 1, 1), at1);
        due.is("PAID of " + bottles + " at 999", worth(kind, bottles, 1, 999), at999);
    }

    private static void paid() {
        due.sentence("MILK BOTTLES times PRICE by 100, cut;");
        paid(MILK, 0, 0, 0, 0);
        paid(MILK, 1, 0, 0, 9);
        paid(MILK, 99, 0, 0, 989);
        paid(MILK, 100, 0, 1, 999);
        paid(MILK, 199, 0, 1, 1988);
        paid(MILK, 9999, 0, 99, 99890);
        due.sentence("THIRD as MILK, and 1 more if it has any;");
        paid(THIRD, 0, 0, 0, 0);
        paid(THIRD, 1, 1, 1, 10);
        paid(THIRD, 100, 1, 2, 1000);
        paid(THIRD, 9999, 1, 100, 99891);
        due.sentence("DRY half of MILK's (cut);");
        paid(DRY, 0, 0, 0, 0);
        paid(DRY, 1, 0, 0, 4);
        paid(DRY, 199, 0, 0, 994);
        paid(DRY, 300, 0, 1, 1498);
        paid(DRY, 9999, 0, 49, 49945);
        due.sentence("OVER as THIRD;");
        paid(OVER, 0, 0, 0, 0);
        paid(OVER, 1, 1, 1, 10);
        paid(OVER, 100, 1, 2, 1000);
        paid(OVER, 9999, 1, 100, 99891);
        due.sentence("WARM half of a THIRD's (cut);");
        paid(WARM, 0, 0, 0, 0);
        paid(WARM, 1, 0, 0, 5);
        paid(WARM, 100, 0, 1, 500);
        paid(WARM, 200, 0, 1, 999);
        paid(WARM, 9999, 0, 50, 49945);
        due.sentence("FROZEN as WARM;");
        paid(FROZEN, 0, 0, 0, 0);
        paid(FROZEN, 1, 0, 0, 5);
        paid(FROZEN, 100, 0, 1, 500);
        paid(FROZEN, 200, 0, 1, 999);
        paid(FROZEN, 9999, 0, 50, 49945);
        due.sentence("UNMET as THIRD, less 1 if that is above 0.");
        paid(UNMET, 0, 0, 0, 0);
        paid(UNMET, 1, 0, 0, 9);
        paid(UNMET, 100, 0, 1, 999);
        paid(UNMET, 9999, 0, 99, 99890);
    }

    private static void shelves() {
        due.sentence("SHELVES 0 .. 7 each hold nothing (at first), a CRATE, a ROW.");
        MilkDesk x = new MilkDesk();
        for (int d = 0; d < 8; d++) {
            due.is("nothing at first: put", x.put(d, 0, 0), -11);
            due.is("nothing at first: crate", x.crate(d, 0, 0), -11);
            due.is("nothing at first: toss", x.toss(d), -11);
            due.is("nothing at first: fault", x.fault(d), -11);
            due.is("nothing at first: heads", x.heads(0, d), -11);
            due.is("nothing at first: act", x.act(d, 0, 0), -11);
            due.is("nothing at first: beside", x.beside(d, 0, 0), -1000000011);
            due.is("nothing at first: copy", x.copy(d, 0, d, 0, 0), -11);
            due.is("nothing at first: element", thrown(x, d, 0), 2);
        }
        x.school(0, 0);
        x.dairy(0, 0, 1);
        for (int d = 0; d < 8; d++) {
            x.row(d, 0, 1);
        }
        due.range("heads by a SHELF", -1, 0, 7, n -> x.heads(0, n));
        due.range("fault in a SHELF", -1, 0, 7, x::fault);
        due.range("act in a SHELF", -1, 0, 7, n -> x.act(n, 0, 0));
        due.range("round of a SHELF", -1, 0, 7, n -> x.round(0, 0, n, -1));
        due.range("judge of a SHELF", -1, 0, 7, n -> x.judge(0, 0, n));
        due.range("beside by a SHELF", -1000000001, 0, 7, n -> x.beside(n, 0, 0));
        due.range("put into a SHELF", -1, 0, 7, n -> x.put(n, 0, 0));
        due.range("element of a SHELF", 1, 0, 7, n -> thrown(x, n, 0));
        due.range("copy from a SHELF", -1, 0, 7, n -> x.copy(n, 0, 0, 0, 1));
        due.range("copy to a SHELF", -1, 0, 7, n -> x.copy(0, 0, n, 0, 1));
        due.range("crate on a SHELF", -1, 0, 7, n -> x.crate(n, 0, 0));
        due.range("toss from a SHELF", -1, 0, 7, x::toss);
        due.range("row for a SHELF", -1, 0, 7, n -> x.row(n, 0, 1));
        due.range("keep on a SHELF", -1, 0, 7, n -> x.keep(n, 1, 0, 1, 0));
        due.range("keep nothing on a SHELF", -1, 0, 7, n -> x.keep(n, 0, 0, 0, 0));
        for (int d = 0; d < 8; d++) {
            x.keep(d, 1, MILK, 100 + d, d);
        }
        for (int d = 0; d < 8; d++) {
            due.is("each its own CRATE", x.crate(d, 0, 0), 300 + 3 * d);
            due.is("each its own SCHOOL", x.toss(d), d);
        }
    }

    private static void rows() {
        due.sentence("A ROW has a SORT (0 bytes, 1 shorts, 2 ints) and 0 .. 80 elements, 0 at first;");
        MilkDesk x = new MilkDesk();
        due.range("a SORT", -1, 0, 2, n -> x.row(0, n, 1));
        for (int sort = 0; sort < 3; sort++) {
            due.is("no elements", x.row(0, sort, 0), 0);
            due.is("no element 0", thrown(x, 0, 0), 2);
            due.is("80 elements", x.row(0, sort, 80), 0);
            for (int i = 0; i < 80; i++) {
                due.is("0 at first", x.element(0, i), 0);
                x.put(0, i, i - 40);
            }
            due.is("element 79", x.element(0, 79), 39);
            due.is("no element 80", thrown(x, 0, 80), 2);
            due.is("81 elements", x.row(0, sort, 81), -1);
            due.is("held still", x.element(0, 0), -40);
            due.is("fewer elements", x.row(0, sort, 3), 0);
            due.is("more elements", x.row(0, sort, 80), 0);
            for (int i = 0; i < 80; i++) {
                due.is("0 at first in a new ROW", x.element(0, i), 0);
            }
        }
    }

    private static void kept(int sort, int v, long want) {
        MilkDesk x = new MilkDesk();
        x.row(0, sort, 80);
        due.is("put of " + v, x.put(0, 79, v), 0);
        due.is(v + " in a row of sort " + sort, x.element(0, 79), want);
        due.is("the element ahead", x.element(0, 78), 0);
    }

    private static void keptBits() {
        due.sentence("what is put in keeps its lowest bits.");
        int[] bytes = {0, 1, -1, 127, 128, 129, 255, 256, 257, -127, -128, -129, -256, -257, 65408, LEAST, MOST};
        int[] bytesKept = {0, 1, -1, 127, -128, -127, -1, 0, 1, -127, -128, 127, 0, -1, -128, 0, -1};
        for (int k = 0; k < bytes.length; k++) {
            kept(0, bytes[k], bytesKept[k]);
        }
        int[] shorts = {0, -1, 255, 256, 32767, 32768, 65535, 65536, 65537, -32768, -32769, -65537, LEAST, MOST};
        int[] shortsKept = {0, -1, 255, 256, 32767, -32768, -1, 0, 1, -32768, 32767, -1, 0, -1};
        for (int k = 0; k < shorts.length; k++) {
            kept(1, shorts[k], shortsKept[k]);
        }
        for (int v : shorts) {
            kept(2, v, v);
        }
    }

    private static void refusals() {
        due.sentence("-11 nothing is held where something is wanted; -12 it is of another kind;");
        MilkDesk x = new MilkDesk();
        x.keep(1, 1, 0, 5, 0);
        x.row(2, 0, 1);
        due.is("a ROW is wanted, nothing held", x.put(0, 0, 0), -11);
        due.is("a ROW is wanted, a CRATE held", x.put(1, 0, 0), -12);
        due.is("a CRATE is wanted, nothing held", x.crate(0, 0, 0), -11);
        due.is("a CRATE is wanted, a ROW held", x.crate(2, 0, 0), -12);
        due.sentence("-13 a place that isn't there; -14 a size below 0; -15 a FAILURE that is none.");
        due.is("a place", x.put(2, 1, 0), -13);
        due.is("a size", x.row(2, 0, -1), -14);
        x.keep(1, 1, 0, 0, 0);
        due.is("a FAILURE", x.toss(1), -15);
    }

    private static void keep() {
        due.sentence("SHELF d gets: what = 0 nothing (the others do not matter);");
        MilkDesk x = new MilkDesk();
        x.row(0, 0, 1);
        due.is("nothing in place of a ROW", x.keep(0, 0, LEAST, LEAST, LEAST), 0);
        due.is("nothing is held", x.put(0, 0, 0), -11);
        x.keep(0, 1, 0, 5, 5);
        due.is("nothing in place of a CRATE", x.keep(0, 0, MOST, MOST, MOST), 0);
        due.is("nothing is held", x.crate(0, 0, 0), -11);
        due.is("nothing in place of nothing", x.keep(0, 0, 7, 10000, 12), 0);
        due.is("nothing is held", x.toss(0), -11);
        due.sentence("1 a CRATE of KIND k (0 .. 6) with n BOTTLES (0 .. 9999) of a SCHOOL (0 .. 11) and DAY now: 0. -1.");
        due.range("what", -1, 0, 1, n -> x.keep(0, n, 0, 1, 0));
        due.range("a KIND", -1, 0, 6, n -> x.keep(0, 1, n, 1, 0));
        due.is("the last KIND is held", x.toss(0), 100);
        due.range("BOTTLES", -1, 0, 9999, n -> x.keep(0, 1, 0, n, 0));
        due.is("the most are held", x.crate(0, 0, 0), 29997);
        due.range("a SCHOOL, though none has come", -1, 0, 11, n -> x.keep(0, 1, 0, 1, n));
        due.is("the last is held", x.toss(0), 11);
        due.range("a SHELF", -1, 0, 7, n -> x.keep(n, 1, 0, 1, 0));
        Due.goTo(x, 400);
        due.is("on the last DAY", x.keep(0, 1, 0, 2, 11), 0);
    }

    private static void row() {
        due.sentence("SHELF d gets a ROW of a SORT: 0. -1 (n above 80); -14.");
        MilkDesk x = new MilkDesk();
        for (int sort = 0; sort < 3; sort++) {
            int of = sort;
            due.each("a size above 80", -1, n -> x.row(0, of, n), 81, 128, 256, 65536, MOST);
            due.each("a size below 0", -14, n -> x.row(0, of, n), -1, -80, -128, LEAST);
            due.each("a size", 0, n -> x.row(0, of, n), 0, 1, 79, 80);
        }
        due.each("of no SORT, a size below 0", -1, n -> x.row(0, n, -1), -1, 3);
        due.each("on no SHELF, a size below 0", -1, n -> x.row(n, 0, -1), -1, 8);
        x.keep(0, 1, 0, 1, 0);
        due.is("in place of a CRATE", x.row(0, 1, 1), 0);
        due.is("a ROW is held", x.crate(0, 0, 0), -12);
    }

    private static void put() {
        due.sentence("Element i of the ROW becomes v: 0. -1, -11, -12, -13.");
        MilkDesk x = new MilkDesk();
        due.is("no SHELF", x.put(8, -1, 0), -1);
        due.is("nothing held, no place", x.put(0, -1, 0), -11);
        x.keep(0, 1, 0, 1, 0);
        due.is("a CRATE, no place", x.put(0, -1, 0), -12);
        for (int sort = 0; sort < 3; sort++) {
            x.row(0, sort, 3);
            due.range("a place of three", -13, 0, 2, n -> x.put(0, n, 5));
            due.is("the first", x.element(0, 0), 5);
            due.is("the second", x.element(0, 1), 0);
            due.is("the last", x.element(0, 2), 5);
            x.row(0, sort, 80);
            due.range("a place of eighty", -13, 0, 79, n -> x.put(0, n, 5));
            x.row(0, sort, 0);
            due.each("a place of none", -13, n -> x.put(0, n, 5), 0, -1, 1, 79);
        }
    }

    /** 1: IllegalArgumentException, 2: IllegalStateException, 0: nothing, 3: another one. */
    private static int thrown(MilkDesk x, int d, int i) {
        try {
            x.element(d, i);
            return 0;
        } catch (RuntimeException e) {
            return e.getClass() == IllegalArgumentException.class ? 1 : e.getClass() == IllegalStateException.class ? 2 : 3;
        }
    }

    private static void element() {
        due.sentence("Element i of the ROW. IllegalArgumentException: no such SHELF; IllegalStateException: no ROW, no such place.");
        MilkDesk x = new MilkDesk();
        due.each("no SHELF", 1, n -> thrown(x, n, 0), -1, 8, LEAST, MOST);
        due.each("no SHELF, no place", 1, n -> thrown(x, n, n), -1, 8, LEAST, MOST);
        due.is("nothing held", thrown(x, 7, 0), 2);
        x.keep(7, 1, 0, 1, 0);
        due.is("a CRATE", thrown(x, 7, 0), 2);
        for (int sort = 0; sort < 3; sort++) {
            x.row(7, sort, 3);
            due.each("no place of three", 2, n -> thrown(x, 7, n), -1, 3, 79, 80, LEAST, MOST);
            due.each("a place of three", 0, n -> thrown(x, 7, n), 0, 2);
            x.row(7, sort, 0);
            due.each("no place of none", 2, n -> thrown(x, 7, n), -1, 0, 1);
        }
        Due.fill(x, 7, 2, LEAST, MOST);
        due.is("the least int", x.element(7, 0), LEAST);
        due.is("the greatest int", x.element(7, 1), MOST);
    }

    private static void copy() {
        due.sentence("n elements of the ROW in SHELF d from i on come to that in SHELF e from j on: n.");
        MilkDesk x = new MilkDesk();
        Due.fill(x, 0, 1, 1, 2, 3);
        Due.fill(x, 1, 1, 11, 12, 13, 14);
        due.is("all", x.copy(0, 0, 1, 1, 3), 3);
        row("all of them", x, 1, 11, 1, 2, 3);
        row("where they came from", x, 0, 1, 2, 3);
        due.is("the last to the first", x.copy(1, 3, 0, 0, 1), 1);
        row("one of them", x, 0, 3, 2, 3);
        due.is("none", x.copy(0, 0, 1, 0, 0), 0);
        due.is("none from the end to the end", x.copy(0, 3, 1, 4, 0), 0);
        row("none of them", x, 1, 11, 1, 2, 3);
        x.row(2, 0, 80);
        x.row(3, 0, 80);
        x.put(2, 79, 9);
        due.is("eighty", x.copy(2, 0, 3, 0, 80), 80);
        due.is("the eightieth", x.element(3, 79), 9);
        due.sentence("-1, -11 (either), -12 (no ROWS of one SORT), -13.");
        due.is("from no SHELF to nothing", x.copy(8, 0, 7, 0, 1), -1);
        due.is("from nothing to no SHELF", x.copy(7, 0, -1, 0, 1), -1);
        due.is("from nothing", x.copy(7, 0, 0, 0, 1), -11);
        due.is("to nothing", x.copy(0, 0, 7, 0, 1), -11);
        due.is("nothing to itself, no places", x.copy(7, 9, 7, 9, -9), -11);
        x.keep(6, 1, 0, 1, 0);
        due.is("from a CRATE to nothing", x.copy(6, 0, 7, 0, 1), -11);
        due.is("from nothing to a CRATE", x.copy(7, 0, 6, 0, 1), -11);
        due.is("from a CRATE, no places", x.copy(6, 9, 0, 9, 1), -12);
        due.is("to a CRATE, no places", x.copy(0, 9, 6, 9, 1), -12);
        due.is("from a CRATE to itself", x.copy(6, 0, 6, 0, 0), -12);
        for (int sort = 0; sort < 3; sort++) {
            for (int other = 0; other < 3; other++) {
                x.row(4, sort, 3);
                x.row(5, other, 3);
                due.is("SORTS " + sort + ", " + other, x.copy(4, 0, 5, 0, 3), sort == other ? 3 : -12);
                due.is("no elements of SORTS " + sort + ", " + other, x.copy(4, 0, 5, 0, 0), sort == other ? 0 : -12);
                due.is("no places of SORTS " + sort + ", " + other, x.copy(4, 0, 5, 0, 4), sort == other ? -13 : -12);
            }
        }
        x.row(4, 2, 3);
        due.range("from a place", -13, 0, 2, n -> x.copy(4, n, 5, 0, 1));
        due.range("to a place", -13, 0, 2, n -> x.copy(4, 0, 5, n, 1));
        due.range("from a place, none", -13, 0, 3, n -> x.copy(4, n, 5, 0, 0));
        due.range("to a place, none", -13, 0, 3, n -> x.copy(4, 0, 5, n, 0));
        due.range("so many", -13, 0, 3, n -> x.copy(4, 0, 5, 0, n));
        due.range("so many from 1 on", -13, 0, 2, n -> x.copy(4, 1, 5, 0, n));
        due.range("so many to 1 on", -13, 0, 2, n -> x.copy(4, 0, 5, 1, n));
        due.each("so many beyond all", -13, n -> x.copy(4, n, 5, n, n), LEAST, MOST, 1 << 30, -1);
        due.each("places whose ends wrap around", -13, n -> x.copy(4, n, 5, 0, MOST), 1, 2, 3, MOST);
        due.each("places whose ends wrap around", -13, n -> x.copy(4, 0, 5, n, MOST), 1, 2, 3, MOST);
        due.each("a number below 0 that would fit", -13, n -> x.copy(4, 3, 5, 3, n), -1, -2, -3);
    }

    private static void row(String what, MilkDesk x, int d, int... want) {
        for (int i = 0; i < want.length; i++) {
            due.is(what + ", element " + i, x.element(d, i), want[i]);
        }
        due.is(what + ", and no more", thrown(x, d, want.length), 2);
    }

    /** Within one row what comes is what was there ahead of the call. */
    private static void overlaps() {
        due.sentence("n elements of the ROW in SHELF d from i on come to that in SHELF e from j on: n.");
        for (int i = 0; i <= 5; i++) {
            for (int j = 0; j <= 5; j++) {
                for (int n = 0; n <= 5 - Math.max(i, j); n++) {
                    MilkDesk x = new MilkDesk();
                    Due.fill(x, 0, 0, 1, 2, 3, 4, 5);
                    due.is("in one row", x.copy(0, i, 0, j, n), n);
                    for (int k = 0; k < 5; k++) {
                        due.is("copy(0, " + i + ", 0, " + j + ", " + n + "): element " + k, x.element(0, k),
                                k >= j && k < j + n ? k - j + i + 1 : k + 1);
                    }
                }
            }
        }
    }

    private static void crate() {
        due.sentence("Of the CRATE on SHELF d: 0 DRUNK, 1 PAID at a PRICE (0 .. 999, for both). -1, -11, -12 (a ROW).");
        MilkDesk x = new MilkDesk();
        x.keep(0, 1, MILK, 9999, 0);
        due.range("what", -1, 0, 1, n -> x.crate(0, n, 0));
        due.range("a PRICE for DRUNK", -1, 0, 999, n -> x.crate(0, 0, n));
        due.range("a PRICE for PAID", -1, 0, 999, n -> x.crate(0, 1, n));
        due.is("nothing held", x.crate(1, 0, 0), -11);
        due.is("nothing held, no PRICE", x.crate(1, 0, 1000), -1);
        due.is("nothing held, no such what", x.crate(1, 2, 0), -1);
        x.row(1, 2, 80);
        due.is("a ROW", x.crate(1, 1, 0), -12);
        due.is("a ROW, no PRICE", x.crate(1, 1, -1), -1);
    }

    private static void toss() {
        due.sentence("The FAILURE of the CRATE on SHELF d is thrown, and caught: its SCHOOL; of UNMET ones 100 more;");
        MilkDesk x = new MilkDesk();
        int[] kinds = {MILK, THIRD, OVER, WARM, UNMET};
        int[] bottles = {1, 2, 9999};
        for (int kind : kinds) {
            for (int school = 0; school < 12; school++) {
                for (int n : bottles) {
                    x.keep(0, 1, kind, n, school);
                    due.is("of kind " + kind, x.toss(0), kind == UNMET ? 100 + school : school);
                }
            }
        }
        due.sentence("of FROZEN ones its BOTTLES in place of that.");
        for (int n : bottles) {
            x.keep(0, 1, FROZEN, n, 11);
            due.is("of FROZEN ones", x.toss(0), n);
        }
        due.sentence("-1, -11, -12 (a ROW); -15: DRY ones, and any without BOTTLES, have none.");
        due.each("no SHELF", -1, x::toss, -1, 8, LEAST, MOST);
        due.is("nothing held", x.toss(1), -11);
        x.row(1, 0, 0);
        due.is("a ROW", x.toss(1), -12);
        for (int kind = 0; kind < 7; kind++) {
            x.keep(0, 1, kind, 0, 11);
            due.is("of kind " + kind + " without BOTTLES", x.toss(0), -15);
        }
        for (int n : bottles) {
            x.keep(0, 1, DRY, n, 11);
            due.is("of DRY ones", x.toss(0), -15);
        }
        due.is("held still", x.crate(0, 0, 0), 19998);
    }
}
