/** Promises 17 to 21. */
public final class DaysTest {
    private static final Due due = new Due("DaysTest");
    private static final String[] SUMS = {"ORDER", "COME", "UNMET", "BURST", "REFUSED", "GIVEN", "LEFT", "BACK", "GONE", "OWED", "PAID"};

    public static void main(String[] args) {
        going();
        orders();
        oneDay();
        hotDays();
        owed();
        whatIsLeft();
        severalDairies();
        withoutADairy();
        paid();
        refusalsOfSums();
        looks();
        byHowMuch();
        due.end();
    }

    private static void sums(String when, MilkDesk x, int school, int... want) {
        for (int what = 0; what < SUMS.length; what++) {
            due.is(when + ": " + SUMS[what] + " of " + school, x.of(school, what), want[what]);
        }
    }

    private static void heads(MilkDesk x, int age, int... heads) {
        Due.fill(x, 6, 2, heads);
        x.heads(age, 6);
    }

    private static void going() {
        MilkDesk x = new MilkDesk();
        due.each("go(n)", -1, x::go, 0, -1, 61, Integer.MAX_VALUE, Integer.MIN_VALUE);
        due.is("go(60)", x.go(60), 60);
        for (int day = 120; day <= 360; day += 60) {
            due.is("go(60)", x.go(60), day);
        }
        due.is("go(41)", x.go(41), -2);
        due.is("go(61)", x.go(61), -1);
        due.is("count(3)", x.count(3), 360);
        due.is("go(40)", x.go(40), 400);
        due.is("go(1)", x.go(1), -2);
        due.is("count(3)", x.count(3), 400);
    }

    private static void orders() {
        MilkDesk x = Due.withSchools(2);
        heads(x, 0, 10, 1);
        heads(x, 1, 20, 2);
        heads(x, 2, 30, 3);
        int[] want = {0, 0, 0, 0, 0, 0, 0, 60, 60, 60, 60, 60, 0, 0, 60};
        for (int day = 0; day < want.length; day++) {
            due.is("order(0) on " + day, x.order(0), want[day]);
            due.is("order(1) on " + day, x.order(1), want[day] / 10);
            x.go(1);
        }
        Due.act(x, "e:a<2", -1, 15);
        due.is("two ages", x.order(0), 30);
        Due.act(x, "e:n<10", -1, 15);
        due.is("all heads are too many", x.order(0), 0);
        due.is("all heads are few", x.order(1), 6);
        Due.act(x, "e:a=1&d=1", -1, 15);
        due.is("one age on Tuesdays", x.order(0), 20);
        x.go(1);
        due.is("none on Wednesdays", x.order(0), 0);
        due.each("order(n)", -1, x::order, -1, 2, 12);
    }

    private static void oneDay() {
        MilkDesk x = Due.withSchools(1);
        Due.dairy(x, 1000, 500, 150);
        heads(x, 0, 99);
        x.set(0, 0, 33);
        x.set(0, 1, 51);
        x.month(0, 0, 7);
        x.go(7);
        sums("ahead", x, 0, 0, 0, 0, 0, 0, 0, 0, 0, 0, 0, 0);
        due.is("BOTTLES ahead", x.bottles(0), 1000);
        x.go(1);
        // 99 come, 6 burst, 93 given, 30 left, 47 gone; paid 95 of 63, 46 of 30, 5 of 6.
        sums("a day", x, 0, 99, 99, 0, 6, 0, 93, 30, 46, 47, 0, 95 + 46 + 5);
        due.is("BOTTLES", x.bottles(0), 1000 - 6 - 47);
        x.go(1);
        sums("two days", x, 0, 198, 198, 0, 12, 0, 186, 60, 92, 94, 0, 292);
        due.is("BOTTLES", x.bottles(0), 1000 - 12 - 94);
        x.go(5);
        sums("a week", x, 0, 495, 495, 0, 30, 0, 465, 150, 230, 235, 0, 730);
        due.is("count(6)", x.count(6), 235);
        due.is("count(7)", x.count(7), 30);
    }

    private static void hotDays() {
        MilkDesk x = Due.withSchools(2);
        Due.dairy(x, 1000, 500, 100);
        heads(x, 0, 50, 50);
        Due.act(x, "r:c=0", -1, 0);
        x.month(0, 0, 10);
        x.month(0, 1, 19);
        x.go(8);
        sums("19 is not HOT", x, 0, 50, 50, 0, 5, 0, 45, 0, 45, 0, 0, 46 + 3);
        x.month(0, 1, 20);
        x.go(1);
        sums("20 is HOT", x, 0, 100, 100, 0, 10, 45, 45, 0, 45, 0, 0, 49 + 46 / 2 + 3);
        sums("not where r doesn't hold", x, 1, 100, 100, 0, 10, 0, 90, 0, 90, 0, 0, 98);
        due.is("REFUSED are the DAIRY's again", x.bottles(0), 1000 - 20);
        x.go(21);
        due.is("day 30", x.count(3), 30);
        int refused = x.of(0, 4);
        x.go(1);
        due.is("the next MONTH isn't HOT", x.of(0, 4), refused);
    }

    private static void owed() {
        MilkDesk x = Due.withSchools(2);
        Due.dairy(x, 1000, 500, 100);
        heads(x, 2, 50, 50);
        x.set(0, 1, 10);
        x.set(1, 1, 10);
        x.go(8);
        due.is("GONE", x.of(0, 8), 5);
        due.is("OWED without an act", x.of(0, 9), 0);
        Due.act(x, "o:a=0&c=1", -1, 8);
        x.go(1);
        due.is("OWED where o holds", x.of(1, 9), 5);
        due.is("OWED where o doesn't", x.of(0, 9), 0);
        due.is("GONE all", x.count(6), 20);
        x.set(1, 1, 2);
        x.go(1);
        due.is("a single one OWED", x.of(1, 9), 6);
    }

    private static void whatIsLeft() {
        MilkDesk x = Due.withSchools(3);
        Due.dairy(x, 100, 500, 100);
        heads(x, 0, 60, 60, 60);
        x.go(8);
        due.is("the first", x.of(0, 1), 60);
        due.is("the next", x.of(1, 1), 40);
        due.is("the next's UNMET", x.of(1, 2), 20);
        due.is("the last", x.of(2, 1), 0);
        due.is("they come back at the end of the DAY", x.bottles(0), 100);
        x = Due.withSchools(3);
        Due.dairy(x, 1000, 70, 100);
        heads(x, 0, 60, 60, 60);
        x.go(9);
        due.is("COME by the CAP of each DAY", x.of(0, 1), 120);
        due.is("what is left of the CAP", x.of(1, 1), 20);
        due.is("nothing left of the CAP", x.of(2, 2), 120);
        x = Due.withSchools(3);
        Due.dairy(x, 1000, 500, 100);
        heads(x, 0, 60, 60, 60);
        x.month(0, 2, 130);
        x.go(8);
        due.is("COME by COWS", x.of(2, 1), 10);
        x.go(1);
        due.is("COWS of each DAY", x.of(2, 1), 20);
        x.month(0, 2, 0);
        x.go(1);
        due.is("no COWS", x.of(0, 2), 60);
    }

    private static void severalDairies() {
        MilkDesk x = new MilkDesk();
        x.school(0, 0);
        x.school(1, 0);
        x.school(0, 0);
        x.dairy(0, 500, 80);
        x.dairy(0, 400, 90);
        x.bid(0, 0, 100);
        x.bid(1, 1, 200);
        x.bid(1, 0, 100);
        heads(x, 1, 50, 50, 50);
        x.month(0, 2, 120);
        x.set(1, 1, 100);
        x.go(8);
        due.is("of the first DAIRY", x.of(0, 1), 50);
        due.is("of the other", x.of(1, 1), 50);
        due.is("by COWS of all together", x.of(2, 1), 20);
        due.is("BOTTLES of the first", x.bottles(0), 500);
        due.is("BOTTLES of the other", x.bottles(1), 350);
        due.is("PAID at the shire's PRICE", x.of(1, 10), 101);
        x.month(0, 2, 99999);
        x.go(1);
        due.is("by the CAP", x.of(2, 1), 50);
        due.is("the other's CAP is its own", x.of(1, 1), 100);
    }

    private static void withoutADairy() {
        MilkDesk x = Due.withSchools(1);
        x.dairy(0, 500, 80);
        heads(x, 0, 50);
        x.month(0, 0, 50);
        x.go(8);
        sums("no bid", x, 0, 50, 0, 50, 0, 0, 0, 0, 0, 0, 0, 0);
        x.bid(0, 0, 0);
        x.go(1);
        sums("a bid of 0", x, 0, 100, 50, 50, 25, 0, 25, 0, 25, 0, 0, 1);
        x.bid(0, 0, -1);
        x.go(1);
        sums("none again", x, 0, 150, 50, 100, 25, 0, 25, 0, 25, 0, 0, 1);
        heads(x, 1, 200);
        x.go(5);
        due.is("nothing is PAID for many UNMET without a DAIRY", x.of(0, 10), 1);
        due.is("though they are", x.of(0, 2), 100 + 50 + 50 + 250);
    }

    private static void paid() {
        MilkDesk x = Due.withSchools(1);
        Due.dairy(x, 9999, 9999, 999);
        heads(x, 0, 200);
        heads(x, 1, 200);
        heads(x, 2, 200);
        x.month(0, 0, 50);
        x.set(0, 0, 50);
        x.go(8);
        // 300 burst, 150 left of 300: 1499, 1499 and half of 2998.
        sums("dear milk", x, 0, 600, 600, 0, 300, 0, 300, 150, 300, 0, 0, 1499 + 1499 + 1499);
        x.month(0, 2, 100);
        x.go(1);
        // 500 unmet, 50 burst, 25 left of 50.
        due.is("with UNMET", x.of(0, 10), 4497 + 250 + 250 + 250 + 4995);
        x.set(0, 0, 100);
        x.month(0, 0, 0);
        x.go(1);
        due.is("all LEFT", x.of(0, 10), 10242 + 1000 + 4995);
    }

    private static void refusalsOfSums() {
        MilkDesk x = Due.withSchools(2);
        due.each("of(n, 0)", -1, n -> x.of(n, 0), -1, 2, 12);
        due.each("of(0, n)", -1, n -> x.of(0, n), -1, 11, Integer.MAX_VALUE);
    }

    private static void looks() {
        MilkDesk x = Due.withSchools(1);
        due.is("a look ahead of the first day", x.look(0, 0, 5), -1);
        x.go(3);
        due.each("look(n, 0, 0)", -1, n -> x.look(n, 0, 0), -1, 1);
        due.each("look(0, n, 0)", -1, n -> x.look(0, n, 0), -1, 3, 4, 400);
        due.each("look(0, 0, n)", -1, n -> x.look(0, 0, n), -1, 1000);
        due.is("count(4)", x.count(4), 0);
        for (int k = 1; k <= 30; k++) {
            due.is("look " + k, x.look(0, k % 3, k == 1 ? 999 : 0), k);
        }
        due.is("a 31st", x.look(0, 0, 0), -2);
        due.is("a 31st that is none", x.look(0, 3, 0), -1);
        due.is("count(4)", x.count(4), 30);
    }

    private static void byHowMuch() {
        MilkDesk x = new MilkDesk();
        x.school(0, 0);
        x.school(2, 0);
        x.school(0, 0);
        heads(x, 0, 10, 20, 30);
        heads(x, 2, 1, 2, 3);
        x.go(7);
        heads(x, 0, 100, 100, 100);
        x.go(9);
        due.is("no LOOKS", x.byHowMuch(0, 0), -1000000004);
        x.look(0, 8, 15);
        due.is("one look's sum", x.byHowMuch(0, 0), -4);
        due.is("one look's least", x.byHowMuch(0, 1), -4);
        due.is("one look's greatest", x.byHowMuch(0, 2), -4);
        x.look(2, 12, 20);
        x.look(2, 6, 999);
        x.look(1, 8, 2);
        x.look(0, 14, 100);
        due.is("the sum", x.byHowMuch(0, 0), -4 + 13 - 999 + 1);
        due.is("the least", x.byHowMuch(0, 1), -999);
        due.is("the greatest", x.byHowMuch(0, 2), 13);
        due.is("of another shire", x.byHowMuch(2, 0), 20);
        due.is("of another shire, the least", x.byHowMuch(2, 1), 20);
        due.is("none of its own", x.byHowMuch(1, 2), -1000000004);
        due.is("none in the last shire", x.byHowMuch(3, 0), -1000000004);
        due.each("byHowMuch(n, 0)", -1000000001, n -> x.byHowMuch(n, 0), -1, 4);
        due.each("byHowMuch(0, n)", -1000000001, n -> x.byHowMuch(0, n), -1, 3);
        due.is("of no shire, without LOOKS", x.byHowMuch(4, 0), -1000000001);
    }
}
