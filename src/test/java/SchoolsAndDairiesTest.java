/** Promises 1 to 8. */
public final class SchoolsAndDairiesTest {
    private static final Due due = new Due("SchoolsAndDairiesTest");

    public static void main(String[] args) {
        newObject();
        school();
        set();
        dairy();
        bidAndWon();
        bottles();
        month();
        due.end();
    }

    private static void newObject() {
        MilkDesk x = new MilkDesk();
        for (int what = 0; what <= 8; what++) {
            due.is("count(" + what + ") of a new object", x.count(what), 0);
        }
        due.is("won(0)", x.won(0), -4);
        due.is("bottles(0)", x.bottles(0), -1);
        due.is("of(0, 0)", x.of(0, 0), -1);
        due.is("order(0)", x.order(0), -1);
        due.is("strike(0, 0)", x.strike(0, 0), -1);
        due.is("restore()", x.restore(), -3);
        due.is("byHowMuch(0, 0)", x.byHowMuch(0, 0), -1000000004);
        for (int d = 0; d < 8; d++) {
            due.is("put(" + d + ", 0, 0)", x.put(d, 0, 0), -11);
        }
        MilkDesk other = new MilkDesk();
        other.school(0, 0);
        due.is("count(0) beside another object", x.count(0), 0);
    }

    private static void school() {
        MilkDesk x = new MilkDesk();
        due.each("school(n, 0)", -1, n -> x.school(n, 0), -1, 4, Integer.MIN_VALUE, Integer.MAX_VALUE);
        due.each("school(0, n)", -1, n -> x.school(0, n), -1, 10000, Integer.MIN_VALUE, Integer.MAX_VALUE);
        due.is("count(0)", x.count(0), 0);
        for (int k = 0; k < 12; k++) {
            due.is("school " + k, x.school(k % 4, k == 0 ? 0 : k == 1 ? 9999 : 100 * k + 7), k);
        }
        due.is("a 13th", x.school(0, 0), -2);
        due.is("a 13th in no shire", x.school(4, 0), -1);
        due.is("count(0)", x.count(0), 12);
    }

    private static void set() {
        MilkDesk x = Due.withSchools(2);
        due.is("LEAVES", x.set(0, 0, 100), 0);
        due.is("LEAVES again", x.set(0, 0, 0), 100);
        due.is("LOSES", x.set(0, 1, 100), 0);
        due.is("LOSES again", x.set(0, 1, 3), 100);
        due.is("LATEST", x.set(0, 2, 999), 660);
        due.is("LATEST again", x.set(0, 2, 0), 999);
        due.is("of another", x.set(1, 1, 1), 0);
        due.is("of another", x.set(1, 2, 1), 660);
        due.each("set(n, 0, 1)", -1, n -> x.set(n, 0, 1), -1, 2, 12, Integer.MIN_VALUE);
        due.each("set(0, n, 1)", -1, n -> x.set(0, n, 1), -1, 3, Integer.MAX_VALUE);
        due.each("set(0, 0, n)", -1, n -> x.set(0, 0, n), -1, 101);
        due.each("set(0, 1, n)", -1, n -> x.set(0, 1, n), -1, 101);
        due.each("set(0, 2, n)", -1, n -> x.set(0, 2, n), -1, 1000);
        due.is("LEAVES after refusals", x.set(0, 0, 5), 0);
        due.is("LOSES after refusals", x.set(0, 1, 5), 3);
        due.is("LATEST after refusals", x.set(0, 2, 5), 0);
    }

    private static void dairy() {
        MilkDesk x = new MilkDesk();
        due.each("dairy(n, 1, 1)", -1, n -> x.dairy(n, 1, 1), -1, 10000);
        due.each("dairy(0, n, 1)", -1, n -> x.dairy(0, n, 1), -1, 10000);
        due.each("dairy(0, 1, n)", -1, n -> x.dairy(0, 1, n), -1, 0, 10000);
        due.is("count(1)", x.count(1), 0);
        due.is("dairy(9999, 0, 1)", x.dairy(9999, 0, 1), 0);
        due.is("dairy(0, 9999, 9999)", x.dairy(0, 9999, 9999), 1);
        due.is("dairy 2", x.dairy(5, 5, 5), 2);
        due.is("dairy 3", x.dairy(5, 5, 5), 3);
        due.is("dairy 4", x.dairy(5, 5, 5), 4);
        due.is("a sixth", x.dairy(5, 5, 5), -2);
        due.is("a sixth with no cap", x.dairy(5, 5, 0), -1);
        due.is("count(1)", x.count(1), 5);
        due.is("count(5)", x.count(5), 9999 + 15);
    }

    private static void bidAndWon() {
        MilkDesk x = new MilkDesk();
        due.is("bid of no dairy", x.bid(0, 0, 5), -1);
        for (int k = 0; k < 3; k++) {
            x.dairy(0, 10, 10);
        }
        due.is("bid(0, 0, 999)", x.bid(0, 0, 999), -4);
        due.is("won(0)", x.won(0), 0);
        due.is("bid(2, 0, 500)", x.bid(2, 0, 500), -4);
        due.is("won(0)", x.won(0), 2);
        due.is("bid(1, 0, 500)", x.bid(1, 0, 500), -4);
        due.is("won(0): the least of several", x.won(0), 1);
        due.is("bid(0, 0, 0)", x.bid(0, 0, 0), 999);
        due.is("won(0)", x.won(0), 0);
        due.is("bid(0, 0, -1)", x.bid(0, 0, -1), 0);
        due.is("won(0)", x.won(0), 1);
        due.is("bid(0, 0, -1) again", x.bid(0, 0, -1), -4);
        due.is("won(1)", x.won(1), -4);
        due.is("bid(0, 3, 7)", x.bid(0, 3, 7), -4);
        due.is("won(3)", x.won(3), 0);
        due.is("won(2)", x.won(2), -4);
        due.each("bid(n, 0, 1)", -1, n -> x.bid(n, 0, 1), -1, 3, 5);
        due.each("bid(0, n, 1)", -1, n -> x.bid(0, n, 1), -1, 4);
        due.each("bid(1, 0, n)", -1, n -> x.bid(1, 0, n), -2, 1000);
        due.is("bid(1, 0, 1) after refusals", x.bid(1, 0, 1), 500);
        due.each("won(n)", -1, x::won, -1, 4, Integer.MAX_VALUE);
    }

    private static void bottles() {
        MilkDesk x = new MilkDesk();
        x.dairy(0, 123, 10);
        x.dairy(0, 9999, 10);
        due.is("bottles(0)", x.bottles(0), 123);
        due.is("bottles(1)", x.bottles(1), 9999);
        due.each("bottles(n)", -1, x::bottles, -1, 2, 5, Integer.MAX_VALUE);
    }

    private static void month() {
        MilkDesk x = new MilkDesk();
        for (int m = 0; m < 12; m++) {
            due.is("COLD", x.month(m, 0, 100), 0);
            due.is("HEAT", x.month(m, 1, 99), 0);
            due.is("COWS", x.month(m, 2, m), 99999);
        }
        for (int m = 0; m < 12; m++) {
            due.is("COLD again", x.month(m, 0, 0), 100);
            due.is("HEAT again", x.month(m, 1, 0), 99);
            due.is("COWS again", x.month(m, 2, 99999), m);
        }
        due.each("month(n, 0, 0)", -1, n -> x.month(n, 0, 0), -1, 12);
        due.each("month(0, n, 0)", -1, n -> x.month(0, n, 0), -1, 3);
        due.each("month(0, 0, n)", -1, n -> x.month(0, 0, n), -1, 101);
        due.each("month(0, 1, n)", -1, n -> x.month(0, 1, n), -1, 100);
        due.each("month(0, 2, n)", -1, n -> x.month(0, 2, n), -1, 100000);
        due.is("COWS after refusals", x.month(0, 2, 1), 99999);
    }
}
