/** The sentences that name a bound: rounds, orders judged, and what is only in mind. Promises 22 to 27. */
public final class BoundsOfPlansTest {
    private static final Due due = new Due("BoundsOfPlansTest");

    public static void main(String[] args) {
        minutesAndLatest();
        theRound();
        judged();
        boughtBounds();
        boughtInMind();
        partedBounds();
        takenAway();
        likes();
        beside();
        inMind();
        onAFullDesk();
        notYetCome();
        roundCalls();
        judgeCalls();
        boughtCalls();
        partedCalls();
        awayCalls();
        besideCalls();
        due.end();
    }

    /** THE ROUND of dairy 0 by the row in shelf 0: the way, then its stops. */
    private static void round(String what, MilkDesk x, int minute, int... want) {
        for (int i = -1; i <= 6; i++) {
            due.is(what + ", i " + i, x.round(0, minute, 0, i), i + 1 < want.length ? want[i + 1] : -4);
        }
    }

    private static void minutesAndLatest() {
        due.sentence("A ROUND of a DAIRY begins at a MINUTE (0 .. 600), goes 1 of FAR in a MINUTE, to SCHOOLS told (7 at most),");
        MilkDesk x = Due.withSchools(9);
        x.dairy(0, 0, 1);
        Due.bytes(x, 0, 0);
        due.range("round from a MINUTE", -1, 0, 600, n -> x.round(0, n, 0, -1));
        due.range("judge from a MINUTE", -1, 0, 600, n -> x.judge(0, n, 0));
        x.set(0, 2, 10);
        round("there at 10", x, 0, 20, 0);
        round("there at 11", x, 1, -4);
        x.set(0, 2, 609);
        round("there at 610", x, 600, -4);
        x.set(0, 2, 610);
        round("there at 610", x, 600, 20, 0);
        Due.bytes(x, 0, 6, 5, 4, 3, 2, 1, 0);
        round("seven", x, 0, 140, 0, 1, 2, 3, 4, 5, 6);
        Due.bytes(x, 0, 7, 6, 5, 4, 3, 2, 1, 0);
        due.is("eight", x.round(0, 0, 0, -1), -13);
        due.sentence("each to be reached by its LATEST (0 .. 999; told, 660 at first):");
        MilkDesk y = new MilkDesk();
        y.school(0, 6000);
        y.school(0, 6100);
        y.school(0, 0);
        y.dairy(0, 0, 1);
        Due.bytes(y, 0, 0);
        due.is("660 at first", y.round(0, 600, 0, -1), 120);
        Due.bytes(y, 0, 1);
        due.is("661 is too late at first", y.round(0, 600, 0, -1), -4);
        due.range("LATEST", -1, 0, 999, n -> y.set(1, 2, n));
        due.is("by 999", y.round(0, 600, 0, -1), 122);
        y.set(1, 2, 0);
        due.is("by 0, from afar", y.round(0, 0, 0, -1), -4);
        y.set(2, 2, 0);
        Due.bytes(y, 0, 2);
        due.is("by 0, from its own PLACE", y.round(0, 0, 0, -1), 0);
        due.is("by 0, a MINUTE later", y.round(0, 1, 0, -1), -4);
        due.is("judged by 0", y.judge(0, 0, 0), -4);
        due.is("judged by 0, a MINUTE later", y.judge(0, 1, 0), 0);
    }

    private static void theRound() {
        due.sentence("the order with the least way (back to the DAIRY counts, too) in which each is reached in time;");
        MilkDesk x = new MilkDesk();
        x.school(0, 5060);
        x.school(0, 5090);
        x.school(0, 5045);
        x.dairy(5050, 0, 1);
        Due.bytes(x, 0, 0, 1, 2);
        round("40 out and 5 the other way", x, 0, 90, 0, 1, 2);
        x.set(2, 2, 84);
        round("late for 2 but by another way as short", x, 0, 90, 2, 0, 1);
        x.set(0, 2, 10);
        round("the least way is late for 0 or 2", x, 0, 110, 0, 2, 1);
        x.set(1, 2, 70);
        round("1 is reached at 70", x, 0, 110, 0, 2, 1);
        x.set(1, 2, 69);
        round("late for 1, too", x, 0, -4);
        due.sentence("of several the first by numbers; -4 none.");
        MilkDesk y = new MilkDesk();
        y.school(0, 5060);
        y.school(0, 5040);
        y.school(0, 6050);
        y.school(0, 4050);
        y.dairy(5050, 0, 1);
        Due.bytes(y, 0, 3, 2, 1, 0);
        round("of twenty-four ways the first", y, 0, 80, 0, 1, 2, 3);
        y.set(3, 2, 10);
        round("3 first", y, 0, 80, 3, 0, 1, 2);
        y.set(1, 2, 10);
        round("none", y, 0, -4);
        y.set(1, 2, 30);
        round("3 first and 1 by 30", y, 0, 80, 3, 1, 0, 2);
        MilkDesk z = new MilkDesk();
        for (int k = 0; k < 12; k++) {
            z.school(0, 5050);
        }
        z.dairy(5050, 0, 1);
        Due.bytes(z, 0, 11, 0, 10, 1, 9, 2, 8);
        round("all at one PLACE", z, 600, 0, 0, 1, 2, 8, 9, 10, 11);
    }

    private static void judged() {
        due.sentence("JUDGED is an order: the first place that is no SCHOOL, comes twice, or is reached too late; -4: none such.");
        MilkDesk x = Due.withSchools(3);
        x.dairy(0, 0, 1);
        Due.bytes(x, 0, 3, 0, 0);
        due.is("no SCHOOL at 0", x.judge(0, 0, 0), 0);
        Due.bytes(x, 0, 0, 1, 3);
        due.is("no SCHOOL at 2", x.judge(0, 0, 0), 2);
        Due.bytes(x, 0, 0, -1);
        due.is("no SCHOOL -1", x.judge(0, 0, 0), 1);
        Due.bytes(x, 0, 0, -128);
        due.is("no SCHOOL -128", x.judge(0, 0, 0), 1);
        Due.bytes(x, 0, 0, 127);
        due.is("no SCHOOL 127", x.judge(0, 0, 0), 1);
        Due.bytes(x, 0, 0, 32);
        due.is("no SCHOOL 32", x.judge(0, 0, 0), 1);
        Due.bytes(x, 0, 0, 0);
        due.is("0 comes twice", x.judge(0, 0, 0), 1);
        Due.bytes(x, 0, 0, 1, 2, 0, 1);
        due.is("0 comes twice first", x.judge(0, 0, 0), 3);
        Due.bytes(x, 0, 0, 1, 2);
        due.is("none such", x.judge(0, 0, 0), -4);
        x.row(0, 0, 0);
        due.is("none such of no places", x.judge(0, 600, 0), -4);
        Due.bytes(x, 0, 0, 1, 2);
        x.set(1, 2, 19);
        due.is("1 is reached at 20", x.judge(0, 0, 0), 1);
        x.set(1, 2, 20);
        due.is("in time", x.judge(0, 0, 0), -4);
        x.set(2, 2, 29);
        due.is("2 is reached at 30", x.judge(0, 0, 0), 2);
        Due.bytes(x, 0, 2, 1, 2);
        due.is("2 is reached too late ahead of its coming twice", x.judge(0, 0, 0), 0);
        Due.bytes(x, 0, 1, 1, 2);
        due.is("1 comes twice ahead of 2", x.judge(0, 0, 0), 1);
        MilkDesk z = new MilkDesk();
        z.school(0, 10);
        z.school(0, 1015);
        z.school(0, 1015);
        z.dairy(0, 0, 1);
        Due.bytes(z, 0, 0, 1, 2);
        z.set(0, 2, 10);
        z.set(1, 2, 25);
        z.set(2, 2, 25);
        due.is("reached by both x and y", z.judge(0, 0, 0), -4);
        z.set(2, 2, 24);
        due.is("the last at one PLACE with the one ahead", z.judge(0, 0, 0), 2);
        z.set(1, 2, 24);
        due.is("the one ahead", z.judge(0, 0, 0), 1);
        z.set(0, 2, 9);
        due.is("the first", z.judge(0, 0, 0), 0);
        MilkDesk y = Due.withSchools(12);
        y.dairy(0, 0, 1);
        y.row(0, 0, 80);
        due.is("eighty times 0", y.judge(0, 0, 0), 1);
        for (int k = 0; k < 80; k++) {
            y.put(0, k, k);
        }
        due.is("0 .. 79", y.judge(0, 0, 0), 12);
    }

    /** A school with these heads a day (200 an age at most), all of which are gone, on the first Monday. */
    private static MilkDesk losing(int heads, int bottles, int cap) {
        MilkDesk x = Due.withSchools(1);
        Due.dairy(x, bottles, cap, 0);
        for (int age = 0; age < 3; age++) {
            Due.heads(x, age, Math.max(0, Math.min(200, heads - 200 * age)));
        }
        x.set(0, 1, 100);
        x.go(7);
        return x;
    }

    private static void boughtBounds() {
        due.sentence("BOUGHT: the least number of BOTTLES more (0 .. 1000) for a DAIRY now, so that in the next n DAYS (1 .. 20)");
        due.is("just enough", losing(100, 100, 9999).bought(0, 1), 0);
        due.is("more than enough", losing(100, 9999, 9999).bought(0, 20), 0);
        due.is("one is wanted", losing(100, 99, 9999).bought(0, 1), 1);
        due.is("one is wanted on the second DAY", losing(100, 199, 9999).bought(0, 2), 1);
        due.is("1000 are wanted", losing(500, 0, 9999).bought(0, 2), 1000);
        due.is("1000 and one to spare", losing(500, 1, 9999).bought(0, 2), 999);
        MilkDesk x = losing(501, 1, 9999);
        due.is("1001 are wanted", x.bought(0, 2), -4);
        due.is("501 less 1 for one DAY", x.bought(0, 1), 500);
        MilkDesk y = losing(200, 0, 9999);
        for (int n = 1; n <= 20; n++) {
            int days = n <= 5 ? n : n <= 7 ? 5 : n - 2;
            due.is("of 200 in " + n + " DAYS", y.bought(0, n), days <= 5 ? 200 * days : -4);
        }
        MilkDesk z = losing(10, 0, 9999);
        due.is("twenty DAYS have fifteen of school", z.bought(0, 20), 150);
        due.is("nineteen have fifteen", z.bought(0, 19), 150);
        due.is("eighteen have fourteen", z.bought(0, 18), 140);
        due.sentence("no SCHOOL of a SHIRE that it WON has any UNMET; -4 none. (In mind; nothing changes.)");
        due.is("the CAP is one too small", losing(100, 9999, 99).bought(0, 1), -4);
        due.is("the CAP is just enough", losing(100, 0, 100).bought(0, 1), 100);
        MilkDesk cows = losing(100, 0, 9999);
        cows.month(0, 2, 99);
        due.is("COWS are one too few", cows.bought(0, 1), -4);
        cows.month(0, 2, 100);
        due.is("COWS are just enough", cows.bought(0, 1), 100);
        MilkDesk lost = losing(100, 0, 9999);
        lost.bid(0, 0, -1);
        due.is("it WON nothing", lost.bought(0, 1), 0);
        lost.dairy(0, 0, 1);
        lost.bid(0, 0, 5);
        lost.bid(1, 0, 5);
        due.is("of several that one WON", lost.bought(1, 1), 0);
        due.is("of several the least WON", lost.bought(0, 1), 100);
        MilkDesk none = new MilkDesk();
        none.dairy(0, 0, 1);
        none.bid(0, 0, 0);
        due.is("without SCHOOLS", none.bought(0, 20), 0);
        MilkDesk others = losing(100, 100, 9999);
        others.school(1, 0);
        Due.heads(others, 0, 100, 100);
        others.go(7);
        due.is("UNMET of a SHIRE that nobody WON", others.bought(0, 1), 100);
        MilkDesk second = new MilkDesk();
        second.school(1, 0);
        second.school(0, 0);
        second.dairy(0, 0, 9999);
        second.dairy(0, 10, 9999);
        second.bid(0, 1, 0);
        second.bid(1, 0, 0);
        Due.heads(second, 0, 50, 60);
        second.go(7);
        due.is("UNMET of a SHIRE that another WON", second.bought(1, 1), 50);
        due.is("of that other", second.bought(0, 1), 50);
    }

    private static void boughtInMind() {
        due.sentence("no SCHOOL of a SHIRE that it WON has any UNMET; -4 none. (In mind; nothing changes.)");
        MilkDesk x = losing(100, 50, 9999);
        x.image();
        String was = Told.all(x);
        due.is("BOUGHT", x.bought(0, 3), 250);
        due.holds("nothing changes", Told.all(x).equals(was));
        due.is("BOUGHT again", x.bought(0, 3), 250);
        due.is("none", x.bought(0, 20), -4);
        due.holds("nothing changes", Told.all(x).equals(was));
        due.is("nor THE IMAGE", x.restore(), 7);
        due.holds("nothing has changed", Told.all(x).equals(was));
    }

    /** Shires 0 .. 3 order 10, 20, 30, 40 on the first Monday. */
    private static MilkDesk fourShires() {
        MilkDesk x = new MilkDesk();
        for (int shire = 0; shire < 4; shire++) {
            x.school(shire, 0);
        }
        Due.heads(x, 0, 10, 20, 30, 40);
        return x;
    }

    private static void partedBounds() {
        due.sentence("PARTED: n thirds (0 .. 9999) between SHIRES by what they ORDER on a DAY:");
        MilkDesk x = fourShires();
        due.range("n", -1, 0, 9999, n -> x.parted(n, 7, 228, 0));
        int[] days = {0, 6, 7, 11, 12, 13, 14, 399, 400};
        int[] want = {0, 0, 40, 40, 0, 0, 40, 40, 40};
        for (int k = 0; k < days.length; k++) {
            due.is("on " + days[k], x.parted(9999, days[k], 228, 3), want[k]);
        }
        due.sentence("SHIRES in an order told (a permutation as digits to the base 4, the first one the lowest):");
        int permutations = 0;
        for (int order = -300; order <= 600; order++) {
            boolean[] seen = new boolean[4];
            boolean is = order >= 0 && order <= 255;
            for (int k = 0; is && k < 4; k++) {
                seen[order >> 2 * k & 3] = true;
            }
            is = is && seen[0] && seen[1] && seen[2] && seen[3];
            permutations += is ? 1 : 0;
            int left = 60;
            for (int k = 0; k < 4 && is; k++) {
                int shire = order >> 2 * k & 3;
                int gets = Math.min(left, 10 * (shire + 1));
                due.is("what " + shire + " gets by " + order, x.parted(60, 7, order, shire), gets);
                left -= gets;
            }
            if (!is) {
                due.is("by " + order, x.parted(60, 7, order, 0), -1);
            }
        }
        due.is("permutations", permutations, 24);
        due.each("by far numbers", -1, n -> x.parted(60, 7, n, 0), Integer.MIN_VALUE, Integer.MAX_VALUE,
            Integer.MIN_VALUE + 228, 228 + 256, 228 - 256);
        due.sentence("each in turn gets what it ORDERS as far as there is; what a SHIRE gets.");
        int[] there = {0, 1, 10, 11, 29, 30, 31, 60, 61, 99, 100, 101, 9999};
        int[][] gets = {{0, 0, 0, 0}, {1, 0, 0, 0}, {10, 0, 0, 0}, {10, 1, 0, 0}, {10, 19, 0, 0}, {10, 20, 0, 0}, {10, 20, 1, 0},
            {10, 20, 30, 0}, {10, 20, 30, 1}, {10, 20, 30, 39}, {10, 20, 30, 40}, {10, 20, 30, 40}, {10, 20, 30, 40}};
        for (int k = 0; k < there.length; k++) {
            for (int shire = 0; shire < 4; shire++) {
                due.is(there[k] + " to " + shire, x.parted(there[k], 7, 228, shire), gets[k][shire]);
            }
        }
    }

    private static void takenAway() {
        due.sentence("TAKEN AWAY: an AGE may not have it in the next n DAYS (1 .. 60) (whatever ACTS say):");
        MilkDesk x = losing(600, 9999, 9999);
        due.is("one DAY", x.away(2, 1, 0), 200);
        due.is("five DAYS", x.away(2, 5, 0), 1000);
        due.is("six DAYS", x.away(2, 6, 0), 1000);
        MilkDesk y = losing(600, 9999, 9999);
        y.set(0, 1, 0);
        due.is("sixty DAYS", y.away(2, 60, 0), 44 * 200);
        Due.act(y, "e:a=2", -1, 7);
        due.is("an ACT that lets it alone have it", y.away(2, 1, 0), 200);
        due.is("an AGE that has none", y.away(1, 1, 0), 0);
        due.sentence("by how much GIVEN (what 0), PAID (1), GONE (2) of all SCHOOLS would be less than without that. (In mind.)");
        MilkDesk z = new MilkDesk();
        z.school(0, 0);
        z.school(1, 0);
        z.dairy(0, 101, 9999);
        z.bid(0, 0, 0);
        z.bid(0, 1, 999);
        Due.heads(z, 0, 101, 0);
        Due.heads(z, 1, 0, 101);
        z.set(1, 1, 100);
        z.set(1, 0, 1);
        z.go(7);
        z.image();
        String was = Told.all(z);
        // With AGE 0: 101 to SCHOOL 0 for 1 penny, 101 UNMET in SCHOOL 1; without it 101 to SCHOOL 1, of which 1 is LEFT.
        due.is("GIVEN: as much", z.away(0, 1, 0), 0);
        due.is("PAID: below 0", z.away(0, 1, 1), 1 + 1008 - (1000 + 10));
        due.is("GONE: below 0", z.away(0, 1, 2), -101);
        due.is("GIVEN of an AGE that gets nothing", z.away(1, 1, 0), 0);
        due.is("PAID for the UNMET of it", z.away(1, 1, 1), 1008);
        due.holds("in mind", Told.all(z).equals(was));
        z.restore();
        due.holds("in mind", Told.all(z).equals(was));
    }

    private static void likes() {
        due.sentence("LIKES: two SCHOOLS of one SHIRE whose HEADS now (all AGES) are not farther apart than an EDGE (0 .. 600),");
        MilkDesk x = new MilkDesk();
        x.school(0, 0);
        x.school(0, 0);
        x.school(1, 0);
        for (int age = 0; age < 3; age++) {
            Due.heads(x, age, 200, 0, 200);
        }
        Due.bytes(x, 0, 1, 0, 0);
        due.range("an EDGE", -1000000001, 0, 600, n -> x.beside(0, n, 1));
        due.is("no HEADS yet: 0 apart", x.beside(0, 0, 1), 1);
        x.go(6);
        due.is("on Sunday", x.beside(0, 0, 1), 1);
        x.go(1);
        due.is("600 apart by 599", x.beside(0, 599, 1), 0);
        due.is("600 apart by 600", x.beside(0, 600, 1), 1);
        Due.bytes(x, 0, 0, 1, 1);
        due.is("the other way round by 599", x.beside(0, 599, 1), 0);
        due.is("the other way round by 600", x.beside(0, 600, 1), 1);
        Due.bytes(x, 0, 2, 0, 1);
        due.is("of two SHIRES", x.beside(0, 600, 1), 0);
        MilkDesk y = Due.withSchools(2);
        Due.heads(y, 0, 100, 97);
        Due.heads(y, 2, 5, 5);
        y.go(7);
        Due.bytes(y, 0, 1, 0);
        due.is("3 apart by 2", y.beside(0, 2, 1), 0);
        due.is("3 apart by 3", y.beside(0, 3, 1), 1);
        due.is("3 apart by 0", y.beside(0, 0, 1), 0);
        due.sentence("one of MARK 1, the other of MARK 0 (MARKS by a ROW of bytes: element k of SCHOOL k; 0, 1; others neither).");
        int[] marks = {-128, -1, 0, 1, 2, 3, 127};
        MilkDesk z = Due.withSchools(2);
        for (int one : marks) {
            for (int other : marks) {
                Due.bytes(z, 0, one, other);
                due.is("MARKS " + one + ", " + other, z.beside(0, 600, 1), one + other == 1 && one * other == 0 ? 1 : 0);
            }
            Due.bytes(z, 0, one);
            due.is("a SCHOOL behind the end has no MARK", z.beside(0, 600, 1), 0);
        }
        z.row(0, 0, 0);
        due.is("none has a MARK", z.beside(0, 600, 1), 0);
        z.row(0, 0, 80);
        z.put(0, 79, 1);
        due.is("a MARK of no SCHOOL", z.beside(0, 600, 1), 0);
        z.put(0, 1, 1);
        due.is("a MARK of the last SCHOOL", z.beside(0, 600, 1), 1);
    }

    private static void beside() {
        due.sentence("BESIDE: the sum over all such PAIRS of the one's GIVEN so far less the other's, and how many PAIRS.");
        MilkDesk x = Due.withSchools(12);
        Due.dairy(x, 9999, 9999, 0);
        Due.heads(x, 0, 0, 1, 2, 3, 4, 5, 6, 7, 8, 9, 10, 11);
        Due.bytes(x, 0, 1, 1, 1, 1, 1, 1, 0, 0, 0, 0, 0, 0);
        due.is("nothing GIVEN so far", x.beside(0, 600, 0), 0);
        due.is("all PAIRS", x.beside(0, 600, 1), 36);
        x.go(9);
        // Two days: twice 0 .. 5 less 6 .. 11, each six times.
        due.is("below 0", x.beside(0, 600, 0), 2 * 6 * (15 - 51));
        due.is("PAIRS 6 apart at most", x.beside(0, 6, 1), 21);
        due.is("PAIRS 1 apart at most", x.beside(0, 1, 1), 1);
        due.is("its sum", x.beside(0, 1, 0), -2);
        due.is("PAIRS 0 apart", x.beside(0, 0, 1), 0);
        due.is("its sum", x.beside(0, 0, 0), 0);
        Due.bytes(x, 0, 0, 0, 0, 0, 0, 0, 1, 1, 1, 1, 1, 1);
        due.is("above 0", x.beside(0, 600, 0), 2 * 6 * (51 - 15));
        MilkDesk y = Due.withSchools(12);
        Due.dairy(y, 9999, 9999, 0);
        for (int age = 0; age < 3; age++) {
            Due.heads(y, age, 200, 200, 200, 200, 200, 200, 0, 0, 0, 0, 0, 0);
        }
        Due.goTo(y, 400);
        Due.bytes(y, 0, 1, 1, 1, 1, 1, 1, 0, 0, 0, 0, 0, 0);
        due.is("the greatest sum", y.beside(0, 600, 0), 36 * 281 * 600);
        Due.bytes(y, 0, 0, 0, 0, 0, 0, 0, 1, 1, 1, 1, 1, 1);
        due.is("the least sum is no refusal", y.beside(0, 600, 0), -36 * 281 * 600);
    }

    /** What is run through in mind knows all that there is. */
    private static void inMind() {
        due.sentence("(In mind; nothing changes.)");
        MilkDesk x = new MilkDesk();
        x.school(0, 3040);
        Due.dairy(x, 0, 9999, 0);
        Due.heads(x, 0, 10);
        due.is("HEADS don't count yet", x.bought(0, 7), 0);
        due.is("HEADS count", x.bought(0, 8), 10);
        Due.heads(x, 0, 30);
        x.go(4);
        Due.heads(x, 0, 20);
        due.is("others count later", x.bought(0, 10), 30);
        due.is("others count that are fewer", x.bought(0, 11), 30);
        x.set(0, 1, 100);
        due.is("five DAYS of 30 and one of 20", x.bought(0, 11), 170);
        Due.act(x, "e:x=30&y=40", -1, 4);
        due.is("an ACT by the PLACE", x.bought(0, 4), 30);
        Due.act(x, "e:x=40|y=30", -1, 4);
        due.is("another one", x.bought(0, 4), 0);
        x.strike(1, 8);
        due.is("the one STRUCK from Tuesday on", x.bought(0, 5), 30);
        Due.act(x, "e:1=2", -1, 9);
        due.is("one that begins on Wednesday", x.bought(0, 20), 30);
        due.sentence("would be less than without that. (In mind.)");
        MilkDesk y = new MilkDesk();
        y.school(0, 3040);
        Due.dairy(y, 9999, 9999, 0);
        Due.heads(y, 0, 10);
        due.is("HEADS don't count yet", y.away(0, 7, 0), 0);
        due.is("HEADS count", y.away(0, 8, 0), 10);
        Due.act(y, "e:x=30&y=40", -1, 0);
        due.is("an ACT by the PLACE", y.away(0, 8, 0), 10);
        y.strike(0, 8);
        y.month(0, 2, 9);
        due.is("COWS", y.away(0, 8, 0), 9);
        y.month(0, 0, 50);
        due.is("COLD", y.away(0, 8, 0), 5);
        y.set(0, 1, 50);
        due.is("LOSES", y.away(0, 8, 2), 2);
        y.set(0, 0, 50);
        // A THIRD of 3 and an OVER of 2, each a penny at a PRICE of 0.
        due.is("LEAVES", y.away(0, 8, 1), 2);
        y.month(0, 1, 20);
        Due.act(y, "r:1=1", -1, 7);
        due.is("HEAT", y.away(0, 8, 0), 0);
    }

    private static void onAFullDesk() {
        due.sentence("SCHOOLS 0 .. 11 as they come");
        MilkDesk x = Due.withSchools(12);
        for (int k = 0; k < 5; k++) {
            Due.dairy(x, 100, 9999, 104 - k);
        }
        Due.heads(x, 0, 10, 10, 10, 10, 10, 10, 10, 10, 10, 10, 10, 10, 10, 10, 10, 10);
        x.go(7);
        x.set(11, 1, 100);
        for (int k = 0; k < 5; k++) {
            due.is("BOUGHT for " + k, x.bought(k, 2), k == 4 ? 30 : 0);
        }
        due.is("PARTED", x.parted(9999, 7, 228, 0), 120);
        due.is("TAKEN AWAY", x.away(0, 1, 0), 100);
        x.row(0, 0, 80);
        for (int k = 0; k < 80; k++) {
            x.put(0, k, k % 2);
        }
        due.is("PAIRS", x.beside(0, 0, 1), 36);
        due.is("JUDGED", x.judge(4, 0, 0), 2);
        Due.bytes(x, 0, 5, 6, 7, 8, 9, 10, 11);
        // Out by 60, 70, 80, 90, back by 20, 10, 0.
        int[] stops = {5, 6, 7, 8, 11, 10, 9};
        for (int i = 0; i < 7; i++) {
            due.is("THE ROUND, i " + i, x.round(4, 0, 0, i), stops[i]);
        }
        x.go(1);
        due.is("COME to the last but one", x.of(9, 1), 10);
        due.is("none to the last", x.of(11, 1), 0);
        due.is("all GONE", x.count(6), 0);
    }

    private static void notYetCome() {
        due.sentence("SCHOOLS 0 .. 11 as they come");
        MilkDesk x = Due.withSchools(1);
        Due.dairy(x, 100, 9999, 104);
        Due.heads(x, 0, 10, 20, 30);
        x.go(7);
        due.is("PARTED", x.parted(9999, 7, 228, 0), 10);
        due.is("BOUGHT", x.bought(0, 1), 0);
        due.is("TAKEN AWAY", x.away(0, 1, 0), 10);
        x.row(0, 0, 80);
        for (int k = 0; k < 80; k++) {
            x.put(0, k, k % 2);
        }
        due.is("PAIRS", x.beside(0, 600, 1), 0);
        due.is("JUDGED", x.judge(0, 0, 0), 1);
        Due.bytes(x, 1, 0, 1);
        due.is("THE ROUND", x.round(0, 0, 1, -1), -13);
        x.school(0, 0);
        due.is("PARTED with another", x.parted(9999, 7, 228, 0), 30);
        due.is("PAIRS with another", x.beside(0, 600, 1), 1);
        due.is("JUDGED with another", x.judge(0, 0, 0), 2);
        due.is("THE ROUND with another", x.round(0, 0, 1, -1), 20);
        due.is("PAIRS when all are 1", all(x, 1), 0);
        due.is("PAIRS when all are 0", all(x, 0), 0);
    }

    /** How many PAIRS there are if all places of a row of 80 bear this mark. */
    private static int all(MilkDesk x, int mark) {
        x.row(0, 0, 80);
        for (int k = 0; k < 80; k++) {
            x.put(0, k, mark);
        }
        return x.beside(0, 600, 1);
    }

    private static void roundCalls() {
        due.sentence("SCHOOLS in the ROW of bytes in SHELF d (1 .. 7 unlike ones): the way (i -1), its i-th SCHOOL; -4 none (no such i, too).");
        MilkDesk x = Due.withSchools(12);
        x.dairy(0, 0, 1);
        int[] stops = {2, 1, 0, 5, 4, 3, 6};
        int[] ways = {60, 60, 60, 120, 120, 120, 140};
        int[][] rounds = {{2}, {1, 2}, {0, 1, 2}, {0, 1, 2, 5}, {0, 1, 2, 4, 5}, {0, 1, 2, 3, 4, 5}, {0, 1, 2, 3, 4, 5, 6}};
        for (int n = 1; n <= 7; n++) {
            Due.bytes(x, 0, java.util.Arrays.copyOf(stops, n));
            due.is("the way of " + n, x.round(0, 0, 0, -1), ways[n - 1]);
            for (int i = 0; i <= 6; i++) {
                due.is("of " + n + ", i " + i, x.round(0, 0, 0, i), i < n ? rounds[n - 1][i] : -4);
            }
        }
        due.sentence("-1 (i not -1 .. 6), -11, -12, -13: not 1 .. 7, one that is no SCHOOL, or told twice.");
        Due.bytes(x, 0, 0);
        due.range("i", -1, -1, 6, n -> x.round(0, 0, 0, n));
        due.is("i -1", x.round(0, 0, 0, -1), 20);
        due.is("nothing held", x.round(0, 0, 1, -1), -11);
        x.keep(1, 1, 0, 1, 0);
        due.is("a CRATE", x.round(0, 0, 1, -1), -12);
        for (int sort = 1; sort < 3; sort++) {
            x.row(1, sort, 1);
            due.is("a ROW of sort " + sort, x.round(0, 0, 1, -1), -12);
            x.row(1, sort, 0);
            due.is("an empty ROW of sort " + sort, x.round(0, 0, 1, -1), -12);
        }
        x.row(1, 0, 0);
        due.is("none", x.round(0, 0, 1, -1), -13);
        due.is("none, i 0", x.round(0, 0, 1, 0), -13);
        Due.bytes(x, 1, 0, 1, 2, 3, 4, 5, 6, 7);
        due.is("eight", x.round(0, 0, 1, -1), -13);
        x.row(1, 0, 80);
        due.is("eighty", x.round(0, 0, 1, -1), -13);
        int[] noSchools = {12, 13, 32, 127, -1, -128, -20};
        for (int no : noSchools) {
            Due.bytes(x, 1, no);
            due.is("no SCHOOL " + no, x.round(0, 0, 1, -1), -13);
            Due.bytes(x, 1, 0, 1, 2, 3, 4, 5, no);
            due.is("no SCHOOL " + no + ", the last", x.round(0, 0, 1, -1), -13);
        }
        Due.bytes(x, 1, 0, 0);
        due.is("told twice", x.round(0, 0, 1, -1), -13);
        Due.bytes(x, 1, 11, 1, 2, 3, 4, 5, 11);
        due.is("told twice, far apart", x.round(0, 0, 1, -1), -13);
        for (int d = 0; d < 4; d++) {
            due.is("no DAIRY, SHELF " + d, x.round(1, 0, d, -1), -1);
            due.is("no MINUTE, SHELF " + d, x.round(0, 601, d, -1), -1);
            due.is("no such i at all, SHELF " + d, x.round(0, 0, d, 7), -1);
        }
        due.is("no SHELF", x.round(0, 0, 8, -1), -1);
        x.set(0, 2, 0);
        Due.bytes(x, 1, 0, 0);
        due.is("told twice, and late", x.round(0, 600, 1, -1), -13);
    }

    private static void judgeCalls() {
        due.sentence("The ROW of bytes in SHELF d is JUDGED as an order: the place; -4. -1, -11, -12 (no ROW of bytes).");
        MilkDesk x = Due.withSchools(2);
        x.dairy(0, 0, 1);
        due.is("nothing held", x.judge(0, 0, 0), -11);
        due.is("nothing held, no DAIRY", x.judge(1, 0, 0), -1);
        due.is("nothing held, no MINUTE", x.judge(0, 601, 0), -1);
        x.keep(0, 1, 0, 1, 0);
        due.is("a CRATE", x.judge(0, 0, 0), -12);
        for (int sort = 1; sort < 3; sort++) {
            x.row(0, sort, 0);
            due.is("an empty ROW of sort " + sort, x.judge(0, 0, 0), -12);
            x.row(0, sort, 2);
            due.is("a ROW of sort " + sort, x.judge(0, 0, 0), -12);
        }
        due.is("a ROW of ints, no MINUTE", x.judge(0, -1, 0), -1);
        x.row(0, 0, 2);
        due.range("of a DAIRY", -1, 0, 0, n -> x.judge(n, 0, 0));
        due.range("from a MINUTE", -1, 0, 600, n -> x.judge(0, n, 0));
        due.is("no SHELF", x.judge(0, 0, 8), -1);
        due.is("the place", x.judge(0, 0, 0), 1);
        Due.bytes(x, 0, 1, 0);
        due.is("-4", x.judge(0, 0, 0), -4);
    }

    private static void boughtCalls() {
        due.sentence("BOUGHT; -4. -1; -2: beyond DAY 400.");
        MilkDesk x = new MilkDesk();
        due.is("without DAIRIES", x.bought(0, 1), -1);
        x.dairy(0, 0, 1);
        due.range("for a DAIRY", -1, 0, 0, n -> x.bought(n, 1));
        due.range("DAYS", -1, 1, 20, n -> x.bought(0, n));
        Due.goTo(x, 380);
        due.is("up to 400", x.bought(0, 20), 0);
        x.go(1);
        due.is("beyond 400", x.bought(0, 20), -2);
        due.is("beyond 400, no DAIRY", x.bought(1, 20), -1);
        due.is("beyond 400, too many DAYS", x.bought(0, 21), -1);
        Due.goTo(x, 399);
        due.is("up to 400", x.bought(0, 1), 0);
        due.is("beyond 400", x.bought(0, 2), -2);
        x.go(1);
        due.is("beyond 400", x.bought(0, 1), -2);
        due.is("no DAYS", x.bought(0, 0), -1);
    }

    private static void partedCalls() {
        due.sentence("PARTED on a DAY (DAY .. 400): what a SHIRE gets. -1 (no permutation, too).");
        MilkDesk x = fourShires();
        x.go(8);
        due.range("a DAY", -1, 8, 400, n -> x.parted(1, n, 228, 0));
        due.range("a SHIRE", -1, 0, 3, n -> x.parted(1, 8, 228, n));
        due.range("n", -1, 0, 9999, n -> x.parted(n, 8, 228, 0));
        due.is("no permutation", x.parted(1, 8, 229, 0), -1);
        due.is("the least permutation", x.parted(1, 8, 27, 3), 1);
        due.is("the greatest permutation", x.parted(1, 8, 228, 0), 1);
        Due.goTo(x, 400);
        due.is("on the last DAY", x.parted(9999, 400, 228, 3), 40);
        due.is("on a DAY that has been", x.parted(9999, 399, 228, 3), -1);
    }

    private static void awayCalls() {
        due.sentence("TAKEN AWAY. -1000000001; -1000000002: beyond DAY 400.");
        MilkDesk x = new MilkDesk();
        due.range("an AGE", -1000000001, 0, 2, n -> x.away(n, 1, 0));
        due.range("DAYS", -1000000001, 1, 60, n -> x.away(0, n, 0));
        due.range("what", -1000000001, 0, 2, n -> x.away(0, 1, n));
        Due.goTo(x, 340);
        due.is("up to 400", x.away(0, 60, 0), 0);
        x.go(1);
        due.is("beyond 400", x.away(0, 60, 0), -1000000002);
        due.is("beyond 400, no AGE", x.away(3, 60, 0), -1000000001);
        due.is("beyond 400, no what", x.away(0, 60, 3), -1000000001);
        due.is("beyond 400, too many DAYS", x.away(0, 61, 0), -1000000001);
        Due.goTo(x, 400);
        due.is("beyond 400", x.away(0, 1, 0), -1000000002);
    }

    private static void besideCalls() {
        due.sentence("the sum (what 0), how many PAIRS (1). -1000000001, -1000000011, -1000000012 (no ROW of bytes).");
        MilkDesk x = Due.withSchools(2);
        due.is("nothing held", x.beside(0, 0, 0), -1000000011);
        due.is("nothing held, PAIRS", x.beside(0, 0, 1), -1000000011);
        due.is("nothing held, no EDGE", x.beside(0, 601, 0), -1000000001);
        due.is("nothing held, no what", x.beside(0, 0, 2), -1000000001);
        x.keep(0, 1, 0, 1, 0);
        due.is("a CRATE", x.beside(0, 0, 0), -1000000012);
        for (int sort = 1; sort < 3; sort++) {
            x.row(0, sort, 0);
            due.is("an empty ROW of sort " + sort, x.beside(0, 0, 0), -1000000012);
            Due.fill(x, 0, sort, 1, 0);
            due.is("a ROW of sort " + sort, x.beside(0, 0, 1), -1000000012);
        }
        due.is("a ROW of ints, no EDGE", x.beside(0, -1, 0), -1000000001);
        Due.bytes(x, 0, 1, 0);
        due.range("an EDGE", -1000000001, 0, 600, n -> x.beside(0, n, 0));
        due.range("what", -1000000001, 0, 1, n -> x.beside(0, 0, n));
        due.range("a SHELF that is there", -1000000001, 0, 7, n -> x.beside(n, 0, 1));
    }
}
