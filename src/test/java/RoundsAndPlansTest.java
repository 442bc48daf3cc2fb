/** Promises 22 to 27. */
public final class RoundsAndPlansTest {
    private static final Due due = new Due("RoundsAndPlansTest");

    public static void main(String[] args) {
        rounds();
        sevenStops();
        roundRefusals();
        judged();
        judgeRefusals();
        bought();
        boughtWithOthers();
        boughtRefusals();
        parted();
        partedRefusals();
        away();
        awayBelowNothing();
        awayRefusals();
        beside();
        besideRefusals();
        due.end();
    }

    private static void heads(MilkDesk x, int age, int... heads) {
        Due.fill(x, 6, 2, heads);
        x.heads(age, 6);
    }

    private static void round(String what, MilkDesk x, int minute, int... want) {
        for (int i = -1; i <= 6; i++) {
            due.is(what + ", i " + i, x.round(0, minute, 0, i), i + 1 < want.length ? want[i + 1] : -4);
        }
    }

    private static void rounds() {
        MilkDesk x = new MilkDesk();
        x.school(0, 1000);
        x.school(1, 3000);
        x.school(2, 2000);
        x.dairy(0, 0, 1);
        Due.bytes(x, 0, 1, 0, 2);
        round("of several ways the first by numbers", x, 0, 60, 0, 1, 2);
        x.set(2, 2, 20);
        round("2 by its LATEST", x, 0, 60, 0, 2, 1);
        x.set(1, 2, 30);
        round("1 by its LATEST", x, 0, 60, 0, 2, 1);
        round("a minute too late", x, 1, -4);
        x.set(1, 2, 660);
        x.set(2, 2, 660);
        x.set(0, 2, 60);
        round("0 by its LATEST", x, 50, 60, 0, 1, 2);
        round("too late for 0", x, 51, -4);
        x.set(0, 2, 999);
        round("at the last minute", x, 600, 60, 0, 1, 2);
        Due.bytes(x, 0, 1);
        round("one stop", x, 600, 60, 1);
        MilkDesk y = new MilkDesk();
        y.school(0, 5060);
        y.school(0, 5040);
        y.school(0, 5055);
        y.dairy(5050, 0, 1);
        Due.bytes(y, 0, 2, 1, 0);
        round("both sides", y, 0, 40, 0, 2, 1);
        y.set(1, 2, 10);
        round("1 first", y, 0, 40, 1, 0, 2);
        y.set(2, 2, 5);
        round("1 and 2 first", y, 0, -4);
        y.set(2, 2, 25);
        round("1, then 2 in time", y, 0, 40, 1, 2, 0);
    }

    private static void sevenStops() {
        MilkDesk x = new MilkDesk();
        int[] places = {0, 9000, 8000, 7000, 6000, 5000, 4000, 3000, 2000, 1000};
        for (int place : places) {
            x.school(0, place);
        }
        x.dairy(0, 0, 1);
        Due.bytes(x, 0, 1, 3, 5, 7, 9, 8, 6);
        round("out and back", x, 0, 180, 1, 3, 5, 6, 7, 8, 9);
        for (int k = 0; k < 10; k++) {
            x.set(k, 2, 100);
        }
        round("all on the way out", x, 10, 180, 9, 8, 7, 6, 5, 3, 1);
        round("all on the way out, a minute later", x, 11, -4);
        for (int k = 0; k < 10; k++) {
            x.set(k, 2, 150);
        }
        round("some on the way back", x, 0, 180, 9, 8, 1, 3, 5, 6, 7);
    }

    private static void roundRefusals() {
        MilkDesk x = Due.withSchools(9);
        x.dairy(0, 0, 1);
        due.is("nothing held", x.round(0, 0, 0, -1), -11);
        x.keep(0, 1, 0, 0, 0);
        due.is("a crate", x.round(0, 0, 0, -1), -12);
        x.row(0, 1, 1);
        due.is("shorts", x.round(0, 0, 0, -1), -12);
        x.row(0, 0, 0);
        due.is("no stops", x.round(0, 0, 0, -1), -13);
        x.row(0, 0, 1);
        due.is("one", x.round(0, 0, 0, -1), 20);
        due.each("round(n, 0, 0, 0)", -1, n -> x.round(n, 0, 0, 0), -1, 1, 5);
        due.each("round(0, n, 0, 0)", -1, n -> x.round(0, n, 0, 0), -1, 601);
        due.each("round(0, 0, n, 0)", -1, n -> x.round(0, 0, n, 0), -1, 8);
        due.each("round(0, 0, 0, n)", -1, n -> x.round(0, 0, 0, n), -2, 7, Integer.MAX_VALUE);
        Due.bytes(x, 0, 0, 1, 2, 3, 4, 5, 6);
        due.is("seven", x.round(0, 0, 0, 6), 6);
        Due.bytes(x, 0, 0, 1, 2, 3, 4, 5, 6, 7);
        due.is("eight", x.round(0, 0, 0, -1), -13);
        Due.bytes(x, 0, 9);
        due.is("no school", x.round(0, 0, 0, -1), -13);
        Due.bytes(x, 0, 0, -1);
        due.is("no school", x.round(0, 0, 0, -1), -13);
        Due.bytes(x, 0, 3, 4, 3);
        due.is("told twice", x.round(0, 0, 0, -1), -13);
        due.is("told twice, and no such i", x.round(0, 0, 0, 6), -13);
        due.is("told twice, but no dairy", x.round(1, 0, 0, 6), -1);
    }

    private static void judged() {
        MilkDesk x = Due.withSchools(12);
        x.dairy(0, 0, 1);
        x.row(0, 0, 0);
        due.is("an empty order", x.judge(0, 600, 0), -4);
        Due.bytes(x, 0, 0, 1, 2);
        due.is("in time", x.judge(0, 600, 0), -4);
        x.set(2, 2, 630);
        due.is("at its LATEST", x.judge(0, 600, 0), -4);
        x.set(2, 2, 629);
        due.is("a minute later", x.judge(0, 600, 0), 2);
        x.set(1, 2, 619);
        due.is("the first of two", x.judge(0, 600, 0), 1);
        x.set(0, 2, 609);
        due.is("the first of three", x.judge(0, 600, 0), 0);
        Due.bytes(x, 0, 0, 1, 0, 12);
        due.is("comes twice", x.judge(0, 0, 0), 2);
        Due.bytes(x, 0, 0, 12, 1, 0);
        due.is("no school", x.judge(0, 0, 0), 1);
        Due.bytes(x, 0, 0, 1, 2, -1);
        due.is("below the schools", x.judge(0, 0, 0), 3);
        Due.bytes(x, 0, 0, 1, 2, 3, 4, 5, 6, 7, 8, 9, 10, 11);
        due.is("all twelve", x.judge(0, 0, 0), -4);
        Due.bytes(x, 0, 0, 1, 2, 3, 4, 5, 6, 7, 8, 9, 10, 11, 11);
        due.is("one of them twice", x.judge(0, 0, 0), 12);
        Due.bytes(x, 0, 11, 10);
        due.is("not in the order of the round", x.judge(0, 0, 0), -4);
        MilkDesk y = new MilkDesk();
        y.school(0, 3045);
        y.school(0, 2080);
        y.dairy(9911, 0, 1);
        Due.bytes(y, 0, 0, 1);
        y.set(0, 2, 103);
        y.set(1, 2, 148);
        due.is("both x and y", y.judge(0, 0, 0), -4);
        due.is("a minute later", y.judge(0, 1, 0), 0);
        y.set(0, 2, 104);
        due.is("a minute later for the second", y.judge(0, 1, 0), 1);
        due.is("the way of both x and y", y.round(0, 0, 0, -1), 103 + 45 + 148);
    }

    private static void judgeRefusals() {
        MilkDesk x = Due.withSchools(2);
        x.dairy(0, 0, 1);
        due.is("nothing held", x.judge(0, 0, 0), -11);
        x.keep(0, 1, 0, 0, 0);
        due.is("a crate", x.judge(0, 0, 0), -12);
        x.row(0, 2, 1);
        due.is("ints", x.judge(0, 0, 0), -12);
        x.row(0, 0, 1);
        due.each("judge(n, 0, 0)", -1, n -> x.judge(n, 0, 0), -1, 1);
        due.each("judge(0, n, 0)", -1, n -> x.judge(0, n, 0), -1, 601);
        due.each("judge(0, 0, n)", -1, n -> x.judge(0, 0, n), -1, 8);
    }

    private static void bought() {
        MilkDesk x = Due.withSchools(2);
        Due.dairy(x, 100, 9999, 100);
        heads(x, 0, 60, 70);
        x.go(4);
        due.is("no school day with heads", x.bought(0, 3), 0);
        due.is("the Monday", x.bought(0, 4), 30);
        due.is("all come back", x.bought(0, 20), 30);
        x.set(0, 1, 10);
        due.is("6 a day are gone, two days", x.bought(0, 5), 36);
        due.is("a week", x.bought(0, 8), 54);
        x.month(0, 0, 10);
        // Of 60 and of 70 burst 6 and 7, and of 54 are gone 5.
        due.is("some burst", x.bought(0, 5), 48);
        due.is("nothing has changed", x.bottles(0), 100);
        due.is("nor the day", x.count(3), 4);
        due.is("nor the sums", x.of(0, 0), 0);
        x.month(0, 1, 25);
        Due.act(x, "r:c=0", -1, 4);
        due.is("some are refused, and come back", x.bought(0, 5), 43);
        x.set(0, 0, 100);
        due.is("LEFT come back", x.bought(0, 5), 43);
        MilkDesk y = Due.withSchools(1);
        Due.dairy(y, 0, 9999, 100);
        heads(y, 0, 200);
        heads(y, 1, 200);
        y.set(0, 1, 100);
        y.go(7);
        due.is("800 for two days", y.bought(0, 2), 800);
        due.is("1200 for three are too many", y.bought(0, 3), -4);
        heads(y, 2, 100);
        y.go(7);
        due.is("1000 for two days", y.bought(0, 2), 1000);
        y.set(0, 1, 99);
        due.is("less for three are too many, too", y.bought(0, 3), -4);
        for (int bottles = 0; bottles < 2; bottles++) {
            MilkDesk z = Due.withSchools(2);
            Due.dairy(z, bottles, 9999, 100);
            heads(z, 0, 200, 200);
            heads(z, 1, 200, 200);
            heads(z, 2, 101, 100);
            z.go(7);
            due.is("1001 without " + bottles, z.bought(0, 1), bottles == 0 ? -4 : 1000);
        }
    }

    private static void boughtWithOthers() {
        MilkDesk x = Due.withSchools(3);
        Due.dairy(x, 100, 119, 100);
        heads(x, 0, 60, 60);
        x.go(7);
        due.is("beyond the CAP", x.bought(0, 1), -4);
        x.dairy(0, 500, 500);
        due.is("of a DAIRY that WON nothing", x.bought(1, 1), 0);
        x.bid(1, 0, 50);
        due.is("of the DAIRY that WON instead", x.bought(1, 1), 0);
        due.is("of the one that lost", x.bought(0, 1), 0);
        x.month(0, 2, 119);
        due.is("beyond the COWS", x.bought(1, 1), -4);
        MilkDesk y = new MilkDesk();
        y.school(1, 0);
        y.school(0, 0);
        y.school(2, 0);
        y.dairy(0, 500, 500);
        y.dairy(0, 10, 500);
        y.bid(0, 1, 5);
        y.bid(1, 0, 5);
        heads(y, 0, 60, 60, 60);
        y.go(7);
        due.is("a SCHOOL without a DAIRY is nobody's", y.bought(1, 1), 50);
        y.month(0, 2, 120);
        due.is("COWS for both", y.bought(1, 1), 50);
        y.month(0, 2, 119);
        due.is("COWS that another took", y.bought(1, 1), -4);
        due.is("of the one that took them", y.bought(0, 1), 0);
        y.month(0, 2, 100);
        y.go(1);
        y.month(0, 2, 500);
        due.is("UNMET of a day before", y.bought(1, 1), 50);
    }

    private static void boughtRefusals() {
        MilkDesk x = new MilkDesk();
        x.dairy(0, 0, 1);
        due.each("bought(n, 1)", -1, n -> x.bought(n, 1), -1, 1);
        due.each("bought(0, n)", -1, n -> x.bought(0, n), -1, 0, 21);
        for (int k = 0; k < 6; k++) {
            x.go(60);
        }
        due.is("up to 380", x.bought(0, 20), 0);
        x.go(21);
        due.is("up to 401", x.bought(0, 20), -2);
        due.is("up to 400", x.bought(0, 19), 0);
        due.is("too many days", x.bought(0, 21), -1);
        x.go(19);
        due.is("on day 400", x.bought(0, 1), -2);
    }

    private static void parted() {
        MilkDesk x = new MilkDesk();
        x.school(0, 0);
        x.school(1, 0);
        x.school(2, 0);
        x.school(0, 0);
        heads(x, 0, 10, 20, 40, 5);
        heads(x, 1, 10, 20, 40, 5);
        // 0, 1, 2, 3 by their turns; ORDERS of 30, 40, 80, 0.
        int first = 228;
        int[] want = {30, 40, 30, 0};
        for (int shire = 0; shire < 4; shire++) {
            due.is("100 to 0, 1, 2, 3: " + shire, x.parted(100, 7, first, shire), want[shire]);
            due.is("on a Sunday", x.parted(100, 13, first, shire), 0);
            due.is("ahead of the heads", x.parted(100, 0, first, shire), 0);
            due.is("of nothing", x.parted(0, 7, first, shire), 0);
        }
        due.is("9999", x.parted(9999, 7, first, 2), 80);
        due.is("on day 400", x.parted(9999, 400, first, 2), 80);
        // 3, 2, 1, 0.
        due.is("2 in its turn", x.parted(100, 7, 27, 2), 80);
        due.is("1 in its turn", x.parted(100, 7, 27, 1), 20);
        due.is("0 in its turn", x.parted(100, 7, 27, 0), 0);
        // 1, 3, 0, 2: 1 + 12 + 0 + 128.
        due.is("0 in its turn", x.parted(60, 7, 141, 0), 20);
        due.is("2 in its turn", x.parted(80, 7, 141, 2), 10);
        Due.act(x, "e:a=0", 2, 0);
        due.is("by what is ordered under the acts", x.parted(100, 7, 27, 2), 40);
        due.is("nothing has changed", x.of(0, 0), 0);
    }

    private static void partedRefusals() {
        MilkDesk x = new MilkDesk();
        x.go(5);
        due.each("parted(n, 5, 228, 0)", -1, n -> x.parted(n, 5, 228, 0), -1, 10000);
        due.each("parted(0, n, 228, 0)", -1, n -> x.parted(0, n, 228, 0), 4, 401, -1);
        due.each("parted(0, 5, n, 0)", -1, n -> x.parted(0, 5, n, 0), -1, 0, 229, 255, 256, 228 + 256, 85, 224,
            Integer.MAX_VALUE, Integer.MIN_VALUE + 228);
        due.each("parted(0, 5, 228, n)", -1, n -> x.parted(0, 5, 228, n), -1, 4);
        int permutations = 0;
        for (int order = 0; order < 256; order++) {
            permutations += x.parted(0, 5, order, 0) == 0 ? 1 : 0;
        }
        due.is("permutations", permutations, 24);
    }

    private static void away() {
        MilkDesk x = Due.withSchools(2);
        Due.dairy(x, 9000, 9000, 100);
        heads(x, 0, 40, 10);
        heads(x, 1, 60, 0);
        x.set(0, 1, 10);
        x.go(5);
        due.is("no heads yet", x.away(0, 2, 0), 0);
        due.is("GIVEN of a day", x.away(0, 3, 0), 50);
        due.is("GIVEN of a week", x.away(0, 9, 0), 250);
        due.is("PAID of a day", x.away(0, 3, 1), 101 + 11 - 61);
        due.is("GONE of a day", x.away(0, 3, 2), 4);
        due.is("GIVEN of juniors", x.away(1, 3, 0), 60);
        due.is("GIVEN of seniors", x.away(2, 60, 0), 0);
        due.is("GIVEN of 60 days", x.away(0, 60, 0), 50 * 42);
        Due.act(x, "e:n<100", -1, 5);
        due.is("HEADS are as they are", x.away(1, 3, 0), 0);
        due.is("only where the acts let them", x.away(0, 3, 0), 10);
        due.is("nothing has changed", x.bottles(0), 9000);
        due.is("nor the day", x.count(3), 5);
        due.is("nor the sums", x.of(0, 0), 0);
        x.go(3);
        due.is("the sums so far don't count", x.away(0, 1, 0), 10);
        MilkDesk y = new MilkDesk();
        y.school(0, 1020);
        y.school(0, 2010);
        Due.dairy(y, 9000, 9000, 100);
        heads(y, 0, 40, 10);
        y.go(7);
        Due.act(y, "e:x=10", -1, 7);
        due.is("acts by the x of the SCHOOL", y.away(0, 1, 0), 40);
        Due.act(y, "e:y=10", -1, 7);
        due.is("acts by the y of the SCHOOL", y.away(0, 1, 0), 10);
    }

    private static void awayBelowNothing() {
        MilkDesk x = new MilkDesk();
        x.school(0, 0);
        x.school(1, 0);
        x.dairy(0, 100, 100);
        x.bid(0, 0, 100);
        x.bid(0, 1, 900);
        heads(x, 0, 100, 0);
        heads(x, 1, 0, 100);
        x.go(7);
        due.is("others get theirs", x.away(0, 1, 0), 0);
        due.is("at a higher price", x.away(0, 1, 1), 101 + 900 - 901);
        x.month(0, 1, 30);
        Due.act(x, "r:c=0", -1, 7);
        due.is("who don't refuse them", x.away(0, 1, 0), -100);
        x.set(1, 1, 100);
        due.is("and lose them", x.away(0, 1, 2), -100);
    }

    private static void awayRefusals() {
        MilkDesk x = new MilkDesk();
        due.each("away(n, 1, 0)", -1000000001, n -> x.away(n, 1, 0), -1, 3);
        due.each("away(0, n, 0)", -1000000001, n -> x.away(0, n, 0), 0, 61);
        due.each("away(0, 1, n)", -1000000001, n -> x.away(0, 1, n), -1, 3);
        for (int k = 0; k < 6; k++) {
            x.go(k < 5 ? 60 : 40);
        }
        due.is("up to 400", x.away(0, 60, 0), 0);
        x.go(1);
        due.is("up to 401", x.away(0, 60, 0), -1000000002);
        due.is("too many days", x.away(0, 61, 0), -1000000001);
        due.is("up to 400", x.away(0, 59, 0), 0);
    }

    private static void beside() {
        MilkDesk x = new MilkDesk();
        x.school(0, 0);
        x.school(0, 0);
        x.school(1, 0);
        x.school(0, 0);
        x.school(0, 0);
        Due.dairy(x, 9000, 9000, 100);
        heads(x, 0, 100, 70, 100, 50, 5);
        heads(x, 1, 0, 10, 0, 45, 0);
        x.set(0, 0, 50);
        x.go(9);
        x.month(0, 0, 50);
        Due.bytes(x, 0, 1, 0, 0, 0);
        // GIVEN two days of 100, 80, 100, 95: school 2 lies in another shire, school 4 has no mark.
        due.is("farther apart than 4", x.beside(0, 4, 1), 0);
        due.is("the sum of none", x.beside(0, 4, 0), 0);
        due.is("5 apart", x.beside(0, 5, 1), 1);
        due.is("5 apart, the sum", x.beside(0, 5, 0), 10);
        due.is("19 apart", x.beside(0, 19, 1), 1);
        due.is("20 apart", x.beside(0, 20, 1), 2);
        due.is("20 apart, the sum", x.beside(0, 20, 0), 50);
        due.is("600 apart", x.beside(0, 600, 1), 2);
        Due.bytes(x, 0, 0, 1, 1, 2, -1, 1, 1, 1, 1, 1, 1, 1, 1, 1);
        due.is("the other way round", x.beside(0, 600, 0), -40);
        due.is("neither mark", x.beside(0, 600, 1), 1);
        Due.bytes(x, 0, 1, 1, 1, 0, 0);
        due.is("all pairs", x.beside(0, 600, 1), 4);
        due.is("all pairs, the sum", x.beside(0, 600, 0), 200 + 160 + 200 + 160 - 190 - 10 - 190 - 10);
        x.row(0, 0, 0);
        due.is("no marks", x.beside(0, 600, 1), 0);
        Due.bytes(x, 0, 1, 0);
        x.go(1);
        due.is("GIVEN is what didn't burst", x.beside(0, 600, 0), 40 + 10);
        heads(x, 0, 0, 0, 0, 0, 0);
        x.go(3);
        due.is("ahead of the Monday", x.beside(0, 19, 1), 0);
        x.go(1);
        due.is("HEADS now, of all AGES", x.beside(0, 10, 1), 1);
        due.is("not those of AGE 0 alone", x.beside(0, 9, 1), 0);
    }

    private static void besideRefusals() {
        MilkDesk x = Due.withSchools(2);
        due.is("nothing held", x.beside(0, 0, 0), -1000000011);
        x.keep(0, 1, 0, 0, 0);
        due.is("a crate", x.beside(0, 0, 0), -1000000012);
        x.row(0, 1, 1);
        due.is("shorts", x.beside(0, 0, 0), -1000000012);
        x.row(0, 0, 1);
        due.each("beside(n, 0, 0)", -1000000001, n -> x.beside(n, 0, 0), -1, 8);
        due.each("beside(0, n, 0)", -1000000001, n -> x.beside(0, n, 0), -1, 601);
        due.each("beside(0, 0, n)", -1000000001, n -> x.beside(0, 0, n), -1, 2);
        due.is("out of range, nothing held", x.beside(5, 601, 0), -1000000001);
    }
}
