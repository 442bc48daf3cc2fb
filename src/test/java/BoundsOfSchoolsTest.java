/** The sentences that name a bound: days, schools, dairies, bids, months. Promises 1 to 8. */
public final class BoundsOfSchoolsTest {
    private static final Due due = new Due("BoundsOfSchoolsTest");

    public static void main(String[] args) {
        calls512();
        days();
        schoolDays();
        weeks();
        monthsOfDays();
        shires();
        schools();
        places();
        heads();
        leavesAndLoses();
        dairies();
        bottlesAndCaps();
        bids();
        far();
        months();
        won();
        prices();
        newObject();
        promises2To4();
        promises5To8();
        due.end();
    }

    private static void calls512() {
        due.sentence("An object is used for at most 512 calls after it has been made");
        MilkDesk x = new MilkDesk();
        due.is("call 1", x.school(0, 0), 0);
        for (int call = 2; call <= 512; call++) {
            due.is("call " + call, x.set(0, 0, call % 101), call == 2 ? 0 : (call - 1) % 101);
        }
        MilkDesk y = new MilkDesk();
        for (int call = 1; call <= 511; call++) {
            due.is("call " + call, y.image(), 0);
        }
        due.is("call 512", y.restore(), 0);
    }

    private static void days() {
        due.sentence("DAYS are 0 .. 400, DAY is 0 at first");
        MilkDesk x = Due.withSchools(1);
        due.is("DAY at first", x.count(3), 0);
        due.is("DAY of an image at first", x.image(), 0);
        due.is("no DAY is over at first", x.look(0, 0, 0), -1);
        due.range("head on a DAY", -1, 0, 400, n -> x.head(0, 0, n, 0));
        due.range("head AS KNOWN on a DAY", -1, 0, 400, n -> x.head(0, 0, 0, n));
        due.range("force on a DAY", -1, 0, 400, n -> x.force(0, 0, n));
        due.range("holds on a DAY", -1, 0, 400, n -> x.holds(0, 0, 0, n));
        due.range("quarrel on a DAY", -1, 0, 400, n -> x.quarrel(0, 0, 0, n));
        due.range("parted on a DAY", -1, 0, 400, n -> x.parted(0, n, 228, 0));
        Due.text(x, 0, "e:a=0");
        due.range("act from a DAY on", -1, 0, 400, n -> x.act(0, 0, n));
        due.is("struck from DAY 0 on", x.strike(0, 0), 1);
        due.is("struck from DAY 401 on", x.strike(1, 401), -1);
        due.is("struck from DAY 400 on", x.strike(1, 400), 1);
        Due.goTo(x, 399);
        due.is("the last DAY", x.go(1), 400);
        due.is("a DAY behind it", x.go(1), -2);
        due.is("DAY still", x.count(3), 400);
        due.is("ORDER on the last DAY", x.order(0), 0);
        due.is("an act from the last DAY on", x.act(0, 0, 400), 2);
        due.is("a look behind DAY 399", x.look(0, 399, 0), 1);
        due.is("a look behind DAY 400", x.look(0, 400, 0), -1);
    }

    private static void schoolDays() {
        due.sentence("a DAY modulo 7: 0 .. 4 are SCHOOL DAYS (0 Monday, 3 Thursday)");
        MilkDesk x = Due.withSchools(1);
        Due.heads(x, 0, 10);
        x.go(7);
        int sum = 0;
        for (int day = 7; day < 400; day++) {
            int order = day % 7 <= 4 ? 10 : 0;
            sum += order;
            due.is("ORDER on " + day, x.order(0), order);
            x.go(1);
            due.is("sum of ORDER behind " + day, x.of(0, 0), sum);
        }
        MilkDesk y = Due.withSchools(1);
        due.is("DAY 0 is a Monday", Due.heads(y, 0, 1), 7);
        y.go(3);
        due.is("DAY 3 is a Thursday", Due.heads(y, 0, 1), 7);
        y.go(1);
        due.is("DAY 4 is behind it", Due.heads(y, 0, 1), 14);
    }

    /** Whether a field has this number on a day, told by an act. */
    private static void field(String field, int day, int want) {
        MilkDesk x = Due.withSchools(1);
        Due.act(x, "e:" + field + "=" + want, -1, 0);
        due.is(field + "=" + want + " on " + day, x.holds(0, 0, 0, day), 1);
        Due.act(x, "r:" + field + "<" + want + "|" + field + ">" + want, -1, 0);
        due.is("another number of " + field + " on " + day, x.holds(1, 0, 0, day), 0);
    }

    private static void weeks() {
        due.sentence("the WEEK is it by 7");
        field("w", 0, 0);
        field("w", 6, 0);
        field("w", 7, 1);
        field("w", 13, 1);
        field("w", 14, 2);
        field("w", 398, 56);
        field("w", 399, 57);
        field("w", 400, 57);
    }

    private static void monthsOfDays() {
        due.sentence("the MONTH is it by 30, modulo 12");
        field("m", 0, 0);
        field("m", 29, 0);
        field("m", 30, 1);
        field("m", 59, 1);
        field("m", 60, 2);
        field("m", 329, 10);
        field("m", 330, 11);
        field("m", 359, 11);
        field("m", 360, 0);
        field("m", 389, 0);
        field("m", 390, 1);
        field("m", 400, 1);
        MilkDesk x = Due.withSchools(1);
        Due.dairy(x, 10, 10, 0);
        Due.heads(x, 0, 10);
        x.month(0, 2, 0);
        x.month(11, 2, 1);
        Due.goTo(x, 30);
        due.is("COME in MONTH 0", x.of(0, 1), 0);
        Due.goTo(x, 330);
        int come = x.of(0, 0) - 17 * 10;
        due.is("COME till MONTH 11", x.of(0, 1), come);
        Due.goTo(x, 360);
        int schoolDays = 0;
        for (int day = 330; day < 360; day++) {
            schoolDays += day % 7 <= 4 ? 1 : 0;
        }
        due.is("COME in MONTH 11", x.of(0, 1), come + schoolDays);
        Due.goTo(x, 390);
        due.is("COME in MONTH 0 again", x.of(0, 1), come + schoolDays);
        Due.goTo(x, 393);
        due.is("COME in MONTH 1 again", x.of(0, 1), come + schoolDays + 10);
    }

    private static void shires() {
        due.sentence("SHIRES 0 .. 3");
        MilkDesk x = new MilkDesk();
        x.dairy(0, 1, 1);
        due.range("school in a SHIRE", -1, 0, 3, n -> x.school(n, 0));
        due.range("bid for a SHIRE", -1, 0, 3, n -> x.bid(0, n, 1));
        due.range("won of a SHIRE", -1, 0, 3, x::won);
        due.range("byHowMuch of a SHIRE", -1000000001, 0, 3, n -> x.byHowMuch(n, 0));
        due.range("parted, what a SHIRE gets", -1, 0, 3, n -> x.parted(1, 0, 228, n));
        Due.text(x, 0, "e:a=0");
        due.range("act for a SHIRE, or all", -1, -1, 3, n -> x.act(0, n, 0));
        MilkDesk y = new MilkDesk();
        y.dairy(0, 1, 1);
        for (int shire = 0; shire < 4; shire++) {
            y.bid(0, shire, 100 + shire);
        }
        for (int shire = 0; shire < 4; shire++) {
            due.is("each SHIRE has its own BID: " + shire, y.bid(0, shire, -1), 100 + shire);
        }
    }

    private static void schools() {
        due.sentence("SCHOOLS 0 .. 11 as they come");
        MilkDesk x = new MilkDesk();
        for (int k = 0; k < 12; k++) {
            due.is("ahead of its coming: " + k, x.order(k), -1);
            due.is("it comes", x.school(k % 4, 0), k);
            due.is("behind its coming: " + k, x.order(k), 0);
            due.is("how many", x.count(0), k + 1);
        }
        due.is("SCHOOL 12", x.school(0, 0), -2);
        due.is("SCHOOL 13", x.school(0, 0), -2);
        due.is("how many still", x.count(0), 12);
        due.range("set of a SCHOOL", -1, 0, 11, n -> x.set(n, 0, 0));
        due.range("head of a SCHOOL", -1, 0, 11, n -> x.head(n, 0, 0, 0));
        due.range("force for a SCHOOL", -1, 0, 11, n -> x.force(0, n, 0));
        due.range("holds for a SCHOOL", -1, 0, 11, n -> x.holds(0, n, 0, 0));
        due.range("quarrel for a SCHOOL", -1, 0, 11, n -> x.quarrel(0, n, 0, 0));
        due.range("of a SCHOOL", -1, 0, 11, n -> x.of(n, 0));
        due.range("order of a SCHOOL", -1, 0, 11, x::order);
        x.go(1);
        due.range("look at a SCHOOL", -1, 0, 11, n -> x.look(n, 0, 0));
        Due.fill(x, 0, 2, 1, 2, 3, 4, 5, 6, 7, 8, 9, 10, 11, 12);
        x.heads(0, 0);
        for (int k = 0; k < 12; k++) {
            due.is("HEADS of SCHOOL " + k, x.head(k, 0, 7, 400), k + 1);
        }
    }

    /** A place by its ways to two corners: a way there and back is twice as far as both x and y are. */
    private static void place(int told, int px, int py) {
        MilkDesk x = new MilkDesk();
        x.school(0, told);
        x.dairy(0, 0, 1);
        x.dairy(9900, 0, 1);
        x.bid(0, 0, 0);
        Due.bytes(x, 0, 0);
        due.is("from 0, 0 to a SCHOOL at " + told, x.round(0, 0, 0, -1), 2 * (px + py));
        due.is("from 99, 0 to a SCHOOL at " + told, x.round(1, 0, 0, -1), 2 * (99 - px + py));
        Due.act(x, "e:x=" + px + "&y=" + py, -1, 0);
        due.is("x and y of a SCHOOL at " + told, x.holds(0, 0, 0, 0), 1);
        MilkDesk y = new MilkDesk();
        y.school(0, 0);
        y.school(0, 9900);
        y.dairy(told, 0, 1);
        Due.bytes(y, 0, 0);
        due.is("from a DAIRY at " + told + " to 0, 0", y.round(0, 0, 0, -1), 2 * (px + py));
        Due.bytes(y, 0, 1);
        due.is("from a DAIRY at " + told + " to 99, 0", y.round(0, 0, 0, -1), 2 * (99 - px + py));
    }

    private static void places() {
        due.sentence("a PLACE x, y (0 .. 99)");
        place(0, 0, 0);
        place(99, 0, 99);
        place(100, 1, 0);
        place(9900, 99, 0);
        place(9999, 99, 99);
        place(9899, 98, 99);
        MilkDesk x = new MilkDesk();
        due.range("school at a PLACE", -1, 0, 9999, n -> x.school(0, n));
        due.range("dairy at a PLACE", -1, 0, 9999, n -> x.dairy(n, 0, 1));
    }

    private static void heads() {
        due.sentence("HEADS of AGES 0 infants, 1 juniors, 2 seniors (0 .. 200 each; 0 at first)");
        MilkDesk x = Due.withSchools(3);
        for (int age = 0; age < 3; age++) {
            for (int day = 0; day <= 400; day += 50) {
                due.is("HEADS of " + age + " at first, on " + day, x.head(0, age, day, 400), 0);
            }
        }
        Due.fill(x, 0, 2, 0, 200, 201);
        due.range("heads of an AGE", -1, 0, 2, n -> x.heads(n, 0));
        due.range("head of an AGE", -1, 0, 2, n -> x.head(0, n, 0, 0));
        due.range("holds for an AGE", -1, 0, 2, n -> x.holds(0, 0, n, 0));
        due.range("quarrel for an AGE", -1, 0, 2, n -> x.quarrel(0, 0, n, 0));
        due.range("away, an AGE", -1000000001, 0, 2, n -> x.away(n, 1, 0));
        x.heads(1, 0);
        for (int age = 0; age < 3; age++) {
            due.is("no HEADS of " + age, x.head(0, age, 7, 0), 0);
            due.is("most HEADS of " + age, x.head(1, age, 7, 0), 200);
            due.is("more than most HEADS of " + age, x.head(2, age, 7, 0), 200);
        }
        x.go(7);
        due.is("most HEADS of all AGES", x.order(1), 600);
    }

    private static void leavesAndLoses() {
        due.sentence("LEAVES and LOSES (0 .. 100 hundredths each; 0 at first)");
        MilkDesk x = Due.withSchools(1);
        due.is("LEAVES at first", x.set(0, 0, 0), 0);
        due.is("LOSES at first", x.set(0, 1, 0), 0);
        due.range("LEAVES", -1, 0, 100, n -> x.set(0, 0, n));
        due.range("LOSES", -1, 0, 100, n -> x.set(0, 1, n));
        due.is("most LEAVES told", x.set(0, 0, 0), 100);
        due.is("most LOSES told", x.set(0, 1, 0), 100);
        Due.dairy(x, 9999, 9999, 0);
        Due.heads(x, 0, 101);
        x.go(8);
        due.is("LEFT at 0", x.of(0, 6), 0);
        due.is("GONE at 0", x.of(0, 8), 0);
        x.set(0, 0, 100);
        x.set(0, 1, 100);
        x.go(1);
        due.is("LEFT at 100", x.of(0, 6), 101);
        due.is("GONE at 100", x.of(0, 8), 101);
        due.is("BACK at 0 and then at 100", x.of(0, 7), 101);
    }

    private static void dairies() {
        due.sentence("DAIRIES 0 .. 4 as they come");
        MilkDesk x = new MilkDesk();
        for (int k = 0; k < 5; k++) {
            due.is("ahead of its coming: " + k, x.bottles(k), -1);
            due.is("it comes", x.dairy(0, 10 + k, 1), k);
            due.is("behind its coming: " + k, x.bottles(k), 10 + k);
            due.is("how many", x.count(1), k + 1);
        }
        due.is("DAIRY 5", x.dairy(0, 1, 1), -2);
        due.is("DAIRY 6", x.dairy(0, 1, 1), -2);
        due.is("how many still", x.count(1), 5);
        due.is("all BOTTLES still", x.count(5), 60);
        due.range("bid of a DAIRY", -1, 0, 4, n -> x.bid(n, 0, 1));
        due.range("bottles of a DAIRY", -1, 0, 4, x::bottles);
        due.range("bought for a DAIRY", -1, 0, 4, n -> x.bought(n, 1));
        x.school(0, 0);
        Due.bytes(x, 0, 0);
        due.range("round of a DAIRY", -1, 0, 4, n -> x.round(n, 0, 0, -1));
        due.range("judge for a DAIRY", -1, 0, 4, n -> x.judge(n, 0, 0));
    }

    private static void bottlesAndCaps() {
        due.sentence("a PLACE, BOTTLES (0 .. 9999), a CAP (1 .. 9999 a DAY)");
        MilkDesk x = new MilkDesk();
        due.range("BOTTLES", -1, 0, 9999, n -> x.dairy(0, n, 1));
        due.is("no BOTTLES", x.bottles(0), 0);
        due.is("most BOTTLES", x.bottles(1), 9999);
        due.range("a CAP", -1, 1, 9999, n -> x.dairy(0, 0, n));
        due.is("a CAP of 0", x.dairy(0, 0, 0), -1);
        int[] bottles = {0, 1, 9999, 9999};
        int[] caps = {9999, 9999, 1, 9999};
        int[] come = {0, 1, 1, 600};
        for (int k = 0; k < 4; k++) {
            MilkDesk y = Due.withSchools(1);
            Due.dairy(y, bottles[k], caps[k], 0);
            for (int age = 0; age < 3; age++) {
                Due.heads(y, age, 200);
            }
            y.go(8);
            due.is("COME of " + bottles[k] + " by a CAP of " + caps[k], y.of(0, 1), come[k]);
            y.go(1);
            due.is("COME in two DAYS", y.of(0, 1), 2 * come[k]);
        }
    }

    private static void bids() {
        due.sentence("a BID for each SHIRE (0 .. 999 pence for 100 bottles, or none: -1, as at first)");
        MilkDesk x = new MilkDesk();
        for (int k = 0; k < 5; k++) {
            x.dairy(0, 1, 1);
            for (int shire = 0; shire < 4; shire++) {
                due.is("none at first: " + k + " for " + shire, x.bid(k, shire, -1), -4);
            }
        }
        due.is("none won", x.won(2), -4);
        due.is("a BID of -2", x.bid(3, 2, -2), -1);
        due.is("a BID of 1000", x.bid(3, 2, 1000), -1);
        due.is("the farthest BIDS", x.bid(3, 2, Integer.MIN_VALUE), -1);
        due.is("the farthest BIDS", x.bid(3, 2, Integer.MAX_VALUE), -1);
        due.is("none still", x.won(2), -4);
        due.is("a BID of 999", x.bid(3, 2, 999), -4);
        due.is("won by it", x.won(2), 3);
        due.is("a BID of 0", x.bid(3, 2, 0), 999);
        due.is("won by it", x.won(2), 3);
        due.is("none again", x.bid(3, 2, -1), 0);
        due.is("none won", x.won(2), -4);
        due.is("it was none", x.bid(3, 2, -1), -4);
        MilkDesk y = Due.withSchools(1);
        Due.dairy(y, 9999, 9999, 999);
        Due.heads(y, 0, 100);
        y.go(8);
        due.is("100 bottles for 999 pence, and 1 more", y.of(0, 10), 1000);
    }

    private static void far() {
        due.sentence("FAR between two PLACES: how far both x and both y are, together.");
        int[][] pairs = {{0, 0, 0}, {5050, 5050, 0}, {0, 9999, 198}, {9999, 0, 198}, {9900, 99, 198}, {99, 9900, 198},
            {0, 1, 1}, {0, 100, 1}, {5050, 4951, 2}, {5050, 5149, 2}, {1020, 3017, 23}};
        for (int[] pair : pairs) {
            MilkDesk x = new MilkDesk();
            x.dairy(pair[0], 0, 1);
            x.school(0, pair[1]);
            Due.bytes(x, 0, 0);
            due.is("there and back, " + pair[0] + " and " + pair[1], x.round(0, 0, 0, -1), 2 * pair[2]);
        }
    }

    private static void months() {
        due.sentence("MONTHS 0 .. 11 have COLD (0 .. 100 hundredths that burst), HEAT (0 .. 99), COWS (0 .. 99999 thirds a DAY;");
        MilkDesk x = new MilkDesk();
        for (int what = 0; what < 3; what++) {
            int fact = what;
            int most = what == 0 ? 100 : what == 1 ? 99 : 99999;
            due.range("month with " + what, -1, 0, 11, n -> x.month(n, fact, 0));
            for (int m = 0; m < 12; m++) {
                int month = m;
                due.range("fact " + what + " of " + m, -1, 0, most, n -> x.month(month, fact, n));
                due.is("the most was told", x.month(m, what, 0), most);
            }
        }
        due.range("a fact of a month", -1, 0, 2, n -> x.month(0, n, 0));
        due.sentence("99999 at first; COLD, HEAT 0).");
        MilkDesk y = new MilkDesk();
        for (int m = 0; m < 12; m++) {
            due.is("COLD of " + m, y.month(m, 0, 0), 0);
            due.is("HEAT of " + m, y.month(m, 1, 0), 0);
            due.is("COWS of " + m, y.month(m, 2, 0), 99999);
        }
        int[] colds = {0, 1, 99, 100};
        int[] burst = {0, 1, 198, 200};
        for (int k = 0; k < 4; k++) {
            MilkDesk z = Due.withSchools(1);
            Due.dairy(z, 9999, 9999, 0);
            Due.heads(z, 0, k == 1 ? 199 : 200);
            z.month(0, 0, colds[k]);
            z.go(8);
            due.is("BURST at a COLD of " + colds[k], z.of(0, 3), burst[k]);
        }
    }

    private static void won() {
        due.sentence("WON of a SHIRE: the DAIRY with the least BID for it, of several the least; none: -4.");
        MilkDesk x = new MilkDesk();
        due.is("without DAIRIES", x.won(0), -4);
        for (int k = 0; k < 5; k++) {
            x.dairy(0, 1, 1);
        }
        due.is("without BIDS", x.won(0), -4);
        int[] dairies = {4, 2, 3, 1, 0};
        for (int dairy : dairies) {
            x.bid(dairy, 0, 999);
            due.is("of several the least", x.won(0), dairy == 3 ? 2 : dairy);
        }
        x.bid(4, 0, 998);
        due.is("the least BID", x.won(0), 4);
        x.bid(3, 0, 0);
        due.is("the least BID there is", x.won(0), 3);
        x.bid(4, 0, 0);
        due.is("of two such the least", x.won(0), 3);
        x.bid(3, 0, -1);
        due.is("none is no BID", x.won(0), 4);
        due.is("of another SHIRE", x.won(1), -4);
    }

    private static void prices() {
        due.sentence("PRICE of a SHIRE: that BID (0 without one).");
        int[] bids = {999, 100, 0, -1};
        int[] paid = {999 + 1, 100 + 1, 1, 0};
        for (int k = 0; k < 4; k++) {
            MilkDesk x = Due.withSchools(1);
            x.dairy(0, 9999, 9999);
            x.dairy(0, 9999, 9999);
            x.bid(1, 0, bids[k]);
            x.bid(0, 1, 500);
            Due.heads(x, 0, 100);
            x.go(8);
            due.is("PAID of 100 at a BID of " + bids[k], x.of(0, 10), paid[k]);
        }
    }

    private static void newObject() {
        due.sentence("No SCHOOLS, DAIRIES, ACTS.");
        MilkDesk x = new MilkDesk();
        due.is("SCHOOLS", x.count(0), 0);
        due.is("DAIRIES", x.count(1), 0);
        due.is("ACTS", x.count(2), 0);
        due.is("LOOKS", x.count(4), 0);
        due.is("ROWS of HEADS", x.count(8), 0);
        due.is("SCHOOL 0", x.of(0, 0), -1);
        due.is("DAIRY 0", x.bottles(0), -1);
        due.is("ACT 0", x.strike(0, 0), -1);
        due.is("the first SCHOOL", x.school(0, 0), 0);
        due.is("the first DAIRY", x.dairy(0, 0, 1), 0);
        due.is("the first ACT", Due.act(x, "e:a=0", -1, 0), 0);
        MilkDesk y = new MilkDesk();
        due.is("SCHOOLS of another object", y.count(0), 0);
        due.is("DAIRIES of another object", y.count(1), 0);
        due.is("ACTS of another object", y.count(2), 0);
    }

    private static void promises2To4() {
        due.sentence("A SCHOOL (told: 100 x and y): its number. -1; -2.");
        MilkDesk x = new MilkDesk();
        due.is("in no SHIRE", x.school(4, 0), -1);
        due.is("at no PLACE", x.school(0, 10000), -1);
        due.is("its number", x.school(3, 9999), 0);
        for (int k = 1; k < 12; k++) {
            x.school(0, 0);
        }
        due.is("no room", x.school(3, 9999), -2);
        due.is("no room, in no SHIRE", x.school(-1, 9999), -1);
        due.is("no room, at no PLACE", x.school(3, -1), -1);
        due.sentence("LEAVES (what 0), LOSES (1), LATEST (2) of a SCHOOL: what it was. -1.");
        int[] most = {100, 100, 999};
        int[] first = {0, 0, 660};
        for (int what = 0; what < 3; what++) {
            int fact = what;
            due.is("what it was at first", x.set(11, what, 7 + what), first[what]);
            due.range("fact " + what, -1, 0, most[what], n -> x.set(11, fact, n));
            due.is("what it was", x.set(11, what, 7 + what), most[what]);
        }
        for (int what = 0; what < 3; what++) {
            due.is("each for itself", x.set(11, what, 0), 7 + what);
            due.is("of another SCHOOL", x.set(10, what, 0), first[what]);
        }
        due.range("what", -1, 0, 2, n -> x.set(0, n, 0));
        due.range("of a SCHOOL", -1, 0, 11, n -> x.set(n, 0, 0));
        due.sentence("A DAIRY (told: 100 x and y): its number. -1; -2.");
        due.is("at no PLACE", x.dairy(10000, 0, 1), -1);
        due.is("BOTTLES below 0", x.dairy(0, -1, 1), -1);
        due.is("too many BOTTLES", x.dairy(0, 10000, 1), -1);
        due.is("a CAP of 0", x.dairy(0, 0, 0), -1);
        due.is("too great a CAP", x.dairy(0, 0, 10000), -1);
        due.is("none came", x.count(1), 0);
        for (int k = 0; k < 5; k++) {
            due.is("its number", x.dairy(9999, 9999, 9999), k);
        }
        due.is("no room", x.dairy(9999, 9999, 9999), -2);
        due.is("no room, a CAP of 0", x.dairy(0, 0, 0), -1);
        due.is("no room, BOTTLES below 0", x.dairy(0, -1, 1), -1);
        due.is("no room, at no PLACE", x.dairy(-1, 0, 1), -1);
    }

    private static void promises5To8() {
        MilkDesk x = new MilkDesk();
        x.dairy(0, 9999, 1);
        x.dairy(0, 0, 1);
        due.sentence("BID of a DAIRY for a SHIRE (-1: none): what it was (-4: none). -1.");
        due.range("of a DAIRY", -1, 0, 1, n -> x.bid(n, 3, 5));
        due.range("for a SHIRE", -1, 0, 3, n -> x.bid(0, n, 5));
        due.is("-1 is told for none", x.bid(0, 3, -1), 5);
        due.is("-4 is answered for none", x.bid(0, 3, 0), -4);
        due.is("0 is a BID", x.bid(0, 3, -1), 0);
        due.each("a BID", -1, n -> x.bid(0, 3, n), -2, -4, 1000);
        due.is("none still", x.bid(0, 3, -1), -4);
        due.sentence("WON; -4. -1.");
        due.is("none", x.won(1), -4);
        due.is("of no SHIRE", x.won(4), -1);
        due.is("of no SHIRE", x.won(-1), -1);
        due.is("WON", x.won(3), 1);
        due.sentence("BOTTLES of a DAIRY. -1.");
        due.is("many", x.bottles(0), 9999);
        due.is("none", x.bottles(1), 0);
        due.range("of a DAIRY", -1, 0, 1, x::bottles);
        due.sentence("COLD (what 0), HEAT (1), COWS (2) of a MONTH: what it was. -1.");
        int[] most = {100, 99, 99999};
        for (int what = 0; what < 3; what++) {
            int fact = what;
            due.is("what it was at first", x.month(11, what, 0), what == 2 ? 99999 : 0);
            due.range("fact " + what, -1, 0, most[what], n -> x.month(11, fact, n));
            due.is("what it was", x.month(11, what, 7 + what), most[what]);
        }
        for (int what = 0; what < 3; what++) {
            due.is("each for itself", x.month(11, what, 0), 7 + what);
            due.is("of another MONTH", x.month(10, what, 0), what == 2 ? 99999 : 0);
        }
        due.range("what", -1, 0, 2, n -> x.month(0, n, 0));
        due.range("of a MONTH", -1, 0, 11, n -> x.month(n, 0, 0));
    }
}
