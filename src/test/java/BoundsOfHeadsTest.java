/** The sentences that name a bound: heads that are told. Promises 9 and 10. */
public final class BoundsOfHeadsTest {
    private static final Due due = new Due("BoundsOfHeadsTest");
    private static final int[] LEASTS = {-128, -32768, Integer.MIN_VALUE};

    public static void main(String[] args) {
        rowsOfAnySort();
        missing();
        aheadOfIt();
        heldTo200();
        fromTheMonday();
        tillOthersCount();
        onADay();
        asKnown();
        sixteenRows();
        toldBy();
        asked();
        due.end();
    }

    private static void rowsOfAnySort() {
        due.sentence("a ROW (of any SORT) for an AGE, told on a DAY: element k for SCHOOL k;");
        for (int sort = 0; sort < 3; sort++) {
            for (int age = 0; age < 3; age++) {
                MilkDesk x = Due.withSchools(12);
                Due.fill(x, 0, sort, 10, 11, 12, 13, 14, 15, 16, 17, 18, 19, 20, 21);
                due.is("told", x.heads(age, 0), 7);
                for (int k = 0; k < 12; k++) {
                    for (int other = 0; other < 3; other++) {
                        due.is("SCHOOL " + k + ", AGE " + other, x.head(k, other, 7, 0), other == age ? 10 + k : 0);
                    }
                }
            }
        }
        MilkDesk x = Due.withSchools(12);
        x.row(0, 2, 80);
        for (int i = 0; i < 80; i++) {
            x.put(0, i, 100 + i);
        }
        due.is("more elements than SCHOOLS", x.heads(0, 0), 7);
        due.is("the last SCHOOL", x.head(11, 0, 7, 0), 111);
    }

    private static void missing() {
        due.sentence("the least number of its SORT, and a SCHOOL behind its end, is MISSING:");
        for (int sort = 0; sort < 3; sort++) {
            MilkDesk x = Due.withSchools(4);
            Due.heads(x, 0, 21, 22, 23, 24);
            Due.fill(x, 0, sort, LEASTS[sort], LEASTS[sort] + 1, 0);
            x.heads(0, 0);
            due.is("the least number", x.head(0, 0, 7, 0), 21);
            due.is("one more than the least", x.head(1, 0, 7, 0), 0);
            due.is("0 isn't MISSING", x.head(2, 0, 7, 0), 0);
            due.is("the first behind the end", x.head(3, 0, 7, 0), 24);
            x.row(0, sort, 0);
            x.heads(0, 0);
            due.is("all are behind the end of an empty ROW", x.head(0, 0, 7, 0), 21);
            due.is("all are behind the end of an empty ROW", x.head(1, 0, 7, 0), 0);
        }
        for (int sort = 1; sort < 3; sort++) {
            MilkDesk x = Due.withSchools(1);
            Due.heads(x, 0, 21);
            Due.fill(x, 0, sort, LEASTS[sort - 1]);
            x.heads(0, 0);
            due.is("the least number of a smaller SORT isn't MISSING", x.head(0, 0, 7, 0), 0);
        }
        MilkDesk y = Due.withSchools(1);
        Due.heads(y, 0, 21);
        y.row(0, 0, 1);
        y.put(0, 0, 128);
        y.heads(0, 0);
        due.is("128 is kept as the least byte", y.head(0, 0, 7, 0), 21);
    }

    private static void aheadOfIt() {
        due.sentence("as in the ROW told for that AGE ahead of it (and so on; 0 without one);");
        for (int sort = 0; sort < 3; sort++) {
            MilkDesk x = Due.withSchools(1);
            Due.fill(x, 0, sort, LEASTS[sort]);
            x.heads(1, 0);
            due.is("0 without one", x.head(0, 1, 7, 0), 0);
            Due.heads(x, 0, 31);
            x.heads(1, 0);
            due.is("0, where another AGE has one", x.head(0, 1, 7, 0), 0);
            Due.heads(x, 1, 41);
            for (int k = 0; k < 12; k++) {
                x.heads(1, 0);
                due.is("and so on, " + k, x.head(0, 1, 7, 0), 41);
            }
            due.is("all ROWS are told", x.count(8), 16);
        }
        MilkDesk z = Due.withSchools(1);
        Due.heads(z, 0, 50);
        Due.heads(z, 2, 60);
        z.row(0, 0, 0);
        z.heads(1, 0);
        due.is("0 without one of its own AGE, where others are ahead", z.head(0, 1, 7, 0), 0);
        MilkDesk y = Due.withSchools(1);
        Due.heads(y, 0, 50);
        y.go(4);
        y.row(0, 0, 0);
        due.is("told on Friday", y.heads(0, 0), 14);
        due.is("as in the ROW that counts till then", y.head(0, 0, 14, 400), 50);
        Due.heads(y, 0, 60);
        due.is("a later one for the same Monday", y.head(0, 0, 14, 400), 60);
        y.go(3);
        y.heads(0, 0);
        due.is("ahead of it is one that doesn't count yet", y.head(0, 0, 14, 400), 60);
    }

    private static void heldTo200() {
        due.sentence("others are held to 0 .. 200.");
        int[] told = {-1, 0, 1, 199, 200, 201, 32767, -32767};
        int[] held = {0, 0, 1, 199, 200, 200, 200, 0};
        for (int sort = 1; sort < 3; sort++) {
            for (int k = 0; k < told.length; k++) {
                MilkDesk x = Due.withSchools(1);
                Due.heads(x, 2, 77);
                Due.fill(x, 0, sort, told[k]);
                x.heads(2, 0);
                due.is(told[k] + " in a ROW of sort " + sort, x.head(0, 2, 7, 0), held[k]);
            }
        }
        MilkDesk y = Due.withSchools(5);
        Due.fill(y, 0, 0, 127, -127, -1, 0, 1);
        y.heads(2, 0);
        int[] bytes = {127, 0, 0, 0, 1};
        for (int k = 0; k < 5; k++) {
            due.is("a byte", y.head(k, 2, 7, 0), bytes[k]);
        }
        Due.heads(y, 2, Integer.MAX_VALUE, Integer.MIN_VALUE + 1, -2147483647, 65536, 256);
        int[] ints = {200, 0, 0, 200, 200};
        for (int k = 0; k < 5; k++) {
            due.is("an int", y.head(k, 2, 7, 0), ints[k]);
        }
    }

    private static void fromTheMonday() {
        due.sentence("They count from the Monday behind the next Thursday on (told on a Thursday: behind that DAY)");
        for (int day = 0; day <= 400; day++) {
            MilkDesk x = Due.withSchools(1);
            Due.goTo(x, day);
            int week = day / 7;
            int from = 7 * (day % 7 <= 3 ? week + 1 : week + 2);
            due.is("told on " + day, Due.heads(x, 0, 5), from);
            if (from <= 400) {
                due.is("on the Sunday ahead of " + from, x.head(0, 0, from - 1, 400), 0);
                due.is("on " + from, x.head(0, 0, from, 400), 5);
            }
            due.is("on the last DAY", x.head(0, 0, 400, 400), from <= 400 ? 5 : 0);
        }
    }

    private static void tillOthersCount() {
        due.sentence("till others count that were told later.");
        MilkDesk x = Due.withSchools(1);
        Due.heads(x, 0, 50);
        x.go(3);
        Due.heads(x, 0, 51);
        x.go(1);
        Due.heads(x, 0, 52);
        x.go(7);
        due.is("told a week later", Due.heads(x, 0, 53), 21);
        due.is("of two for one Monday the one told later", x.head(0, 0, 7, 400), 51);
        due.is("till the Sunday", x.head(0, 0, 13, 400), 51);
        due.is("others count", x.head(0, 0, 14, 400), 52);
        due.is("till the Sunday", x.head(0, 0, 20, 400), 52);
        due.is("others count", x.head(0, 0, 21, 400), 53);
        due.is("none is told later", x.head(0, 0, 400, 400), 53);
        Due.heads(x, 1, 60);
        due.is("others of another AGE don't end them", x.head(0, 0, 400, 400), 53);
    }

    private static void onADay() {
        due.sentence("HEADS of a SCHOOL on a DAY are those that count then;");
        MilkDesk x = Due.withSchools(2);
        Due.heads(x, 0, 50, 5);
        Due.heads(x, 2, 7, 70);
        x.go(6);
        due.is("ORDER on Sunday", x.order(0), 0);
        Due.heads(x, 0, 90, 9);
        x.go(1);
        due.is("ORDER on Monday", x.order(0), 57);
        due.is("of another SCHOOL", x.order(1), 75);
        x.go(4);
        due.is("ORDER on Friday", x.order(0), 57);
        x.go(3);
        due.is("ORDER on the next Monday", x.order(0), 97);
        due.is("of another SCHOOL", x.order(1), 79);
        due.is("of a DAY that was", x.head(0, 0, 13, 400), 50);
    }

    private static void asKnown() {
        due.sentence("AS KNOWN on a DAY k: those told by k alone.");
        MilkDesk x = Due.withSchools(1);
        x.go(2);
        Due.heads(x, 0, 50);
        x.go(1);
        Due.heads(x, 0, 60);
        due.is("told on the DAY behind k", x.head(0, 0, 7, 1), 0);
        due.is("told on k", x.head(0, 0, 7, 2), 50);
        due.is("told on k, behind another", x.head(0, 0, 7, 3), 60);
        due.is("told ahead of k", x.head(0, 0, 7, 4), 60);
        due.is("on DAY 0", x.head(0, 0, 400, 0), 0);
        due.is("on the last DAY", x.head(0, 0, 400, 400), 60);
        due.is("known, but not counting", x.head(0, 0, 6, 400), 0);
        x.go(7);
        x.row(0, 0, 0);
        x.heads(0, 0);
        due.is("MISSING in a ROW known later", x.head(0, 0, 14, 10), 60);
        due.is("MISSING, as in the ROW known earlier", x.head(0, 0, 14, 2), 50);
    }

    private static void sixteenRows() {
        due.sentence("(16 ROWS at most.)");
        MilkDesk x = Due.withSchools(1);
        for (int k = 1; k <= 16; k++) {
            due.is("ROW " + k, Due.heads(x, k % 3, k), 7);
            due.is("how many", x.count(8), k);
        }
        due.is("ROW 17", Due.heads(x, 0, 99), -2);
        Due.goTo(x, 400);
        due.is("ROW 17, on the last DAY", Due.heads(x, 1, 99), -2);
        due.is("how many", x.count(8), 16);
        due.is("HEADS of AGE 0", x.head(0, 0, 400, 400), 15);
        due.is("HEADS of AGE 1", x.head(0, 1, 400, 400), 16);
        due.is("HEADS of AGE 2", x.head(0, 2, 400, 400), 14);
    }

    private static void toldBy() {
        due.sentence("from which DAY on they count. -1, -2, -11, -12.");
        MilkDesk x = Due.withSchools(1);
        x.keep(1, 1, 0, 1, 0);
        x.row(2, 0, 1);
        due.is("of no AGE, nothing held", x.heads(3, 0), -1);
        due.is("of no AGE, a CRATE", x.heads(-1, 1), -1);
        due.is("no SHELF", x.heads(0, 8), -1);
        due.is("nothing held", x.heads(0, 0), -11);
        due.is("a CRATE", x.heads(0, 1), -12);
        due.is("none is told", x.count(8), 0);
        for (int k = 0; k < 16; k++) {
            x.heads(0, 2);
        }
        due.is("no room, of no AGE", x.heads(3, 2), -1);
        due.is("no room, no SHELF", x.heads(0, -1), -1);
        due.is("no room, nothing held", x.heads(0, 0), -2);
        due.is("no room, a CRATE", x.heads(0, 1), -2);
        due.is("no room", x.heads(0, 2), -2);
        MilkDesk y = Due.withSchools(1);
        Due.goTo(y, 395);
        due.is("the last Thursday", Due.heads(y, 0, 5), 399);
        y.go(1);
        due.is("a DAY behind all DAYS", Due.heads(y, 0, 6), 406);
        due.is("on DAY 400 others count", y.head(0, 0, 400, 400), 5);
        y.go(4);
        due.is("told on the last DAY", Due.heads(y, 0, 7), 406);
        due.is("a SCHOOL isn't wanted", Due.heads(new MilkDesk(), 0, 7), 7);
    }

    private static void asked() {
        due.sentence("HEADS of a SCHOOL and AGE on a DAY, AS KNOWN on a DAY (both 0 .. 400). -1.");
        MilkDesk x = Due.withSchools(3);
        due.range("of a SCHOOL", -1, 0, 2, n -> x.head(n, 0, 0, 0));
        due.range("of an AGE", -1, 0, 2, n -> x.head(0, n, 0, 0));
        due.range("on a DAY", -1, 0, 400, n -> x.head(0, 0, n, 0));
        due.range("AS KNOWN on a DAY", -1, 0, 400, n -> x.head(0, 0, 0, n));
        Due.goTo(x, 400);
        due.is("on the first DAY, told on the last", x.head(2, 2, 0, 400), 0);
    }
}
