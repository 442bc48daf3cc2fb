/** The sentences that name a bound: days that go by, sums, looks. Promises 17 to 21. */
public final class BoundsOfDaysTest {
    private static final Due due = new Due("BoundsOfDaysTest");
    private static final int ORDER = 0;
    private static final int COME = 1;
    private static final int UNMET = 2;
    private static final int BURST = 3;
    private static final int REFUSED = 4;
    private static final int GIVEN = 5;
    private static final int LEFT = 6;
    private static final int BACK = 7;
    private static final int GONE = 8;
    private static final int OWED = 9;
    private static final int PAID = 10;

    public static void main(String[] args) {
        hot();
        byNumbers();
        notYetCome();
        order();
        come();
        unmet();
        burst();
        refusedAndGiven();
        left();
        gone();
        back();
        againAtTheEnd();
        owed();
        paid();
        oneMore();
        looks();
        byHowMuch();
        go();
        of();
        orderOfNow();
        look();
        byHowMuchOfAShire();
        due.end();
    }

    /** One school in shire 0 with these infants, a dairy with no end of bottles that won it, on the first Monday. */
    private static MilkDesk monday(int heads, int pence) {
        MilkDesk x = Due.withSchools(1);
        Due.dairy(x, 9999, 9999, pence);
        Due.heads(x, 0, heads);
        x.go(7);
        return x;
    }

    private static void hot() {
        due.sentence("HOT is a MONTH with HEAT 20 or more.");
        int[] heats = {0, 19, 20, 21, 99};
        for (int heat : heats) {
            MilkDesk x = monday(50, 0);
            Due.act(x, "r:1=1", -1, 7);
            x.month(0, 1, heat);
            x.go(1);
            due.is("REFUSED at " + heat, x.of(0, REFUSED), heat >= 20 ? 50 : 0);
            due.is("GIVEN at " + heat, x.of(0, GIVEN), heat >= 20 ? 0 : 50);
        }
        MilkDesk x = monday(50, 0);
        Due.act(x, "r:1=1", -1, 7);
        x.month(1, 1, 20);
        Due.goTo(x, 30);
        due.is("REFUSED in the MONTH ahead", x.of(0, REFUSED), 0);
        Due.goTo(x, 60);
        // Of the DAYS 30 .. 59 the Saturdays and Sundays are 33, 34, 40, 41, 47, 48, 54, 55.
        due.is("REFUSED in the MONTH", x.of(0, REFUSED), 22 * 50);
        Due.goTo(x, 90);
        due.is("REFUSED in the MONTH behind", x.of(0, REFUSED), 22 * 50);
    }

    private static void byNumbers() {
        due.sentence("A DAY goes by: on a SCHOOL DAY, SCHOOLS by numbers:");
        MilkDesk x = Due.withSchools(12);
        Due.dairy(x, 115, 9999, 0);
        Due.heads(x, 0, 10, 10, 10, 10, 10, 10, 10, 10, 10, 10, 10, 10);
        x.go(8);
        for (int k = 0; k < 12; k++) {
            due.is("COME to " + k, x.of(k, COME), k < 11 ? 10 : 5);
        }
        x.go(4);
        int[] sums = new int[12];
        for (int k = 0; k < 12; k++) {
            sums[k] = x.of(k, COME);
        }
        due.is("DAY 12 is a Saturday", x.count(3), 12);
        x.go(2);
        for (int k = 0; k < 12; k++) {
            due.is("on no SCHOOL DAY", x.of(k, COME), sums[k]);
            due.is("on no SCHOOL DAY", x.of(k, UNMET), k < 11 ? 0 : 25);
        }
    }

    private static void notYetCome() {
        due.sentence("A DAY goes by: on a SCHOOL DAY, SCHOOLS by numbers:");
        MilkDesk x = Due.withSchools(1);
        Due.dairy(x, 100, 9999, 100);
        Due.heads(x, 0, 10, 20, 30);
        x.go(7);
        x.month(0, 0, 50);
        x.go(1);
        due.is("BOTTLES, of which 5 BURST", x.bottles(0), 95);
        due.is("no SCHOOL of one that hasn't come", x.of(1, ORDER), -1);
        x.school(0, 0);
        due.is("it has no sums from ahead of its coming", x.of(1, ORDER), 0);
        due.is("all BURST", x.count(7), 5);
        due.is("its ORDER", x.order(1), 20);
        x.go(1);
        due.is("it COMES in its turn", x.of(1, COME), 20);
    }

    private static void order() {
        due.sentence("ORDER: HEADS on the DAY of AGES for which e holds, together.");
        for (int ages = 0; ages < 8; ages++) {
            MilkDesk x = Due.withSchools(1);
            int want = 0;
            for (int age = 0; age < 3; age++) {
                Due.heads(x, age, 200 - age);
                want += (ages >> age & 1) == 1 ? 200 - age : 0;
            }
            String[] tests = {"1=2", "a=0", "a=1", "a<2", "a=2", "!a=1", "a>0", "1=1"};
            Due.act(x, "e:" + tests[ages], -1, 0);
            x.go(7);
            due.is("ORDER of " + tests[ages], x.order(0), want);
            x.go(1);
            due.is("sum of ORDER of " + tests[ages], x.of(0, ORDER), want);
        }
    }

    private static int come(int heads, int bottles, int cap, int cows) {
        MilkDesk x = Due.withSchools(1);
        Due.dairy(x, bottles, cap, 0);
        Due.heads(x, 0, heads);
        x.month(0, 2, cows);
        x.go(8);
        return x.of(0, COME);
    }

    private static void come() {
        due.sentence("COME: ORDER at most, what is left of the CAP that DAY and of the BOTTLES of the DAIRY that WON,");
        due.is("ORDER", come(100, 100, 100, 100), 100);
        due.is("ORDER at most", come(99, 100, 100, 100), 99);
        due.is("the BOTTLES at most", come(100, 99, 100, 100), 99);
        due.is("the CAP at most", come(100, 100, 99, 100), 99);
        due.is("COWS at most", come(100, 100, 100, 99), 99);
        due.is("no ORDER", come(0, 100, 100, 100), 0);
        due.is("no BOTTLES", come(100, 0, 100, 100), 0);
        due.is("the least CAP", come(100, 100, 1, 100), 1);
        due.is("no COWS", come(100, 100, 100, 0), 0);
        MilkDesk x = Due.withSchools(3);
        Due.dairy(x, 9999, 100, 0);
        Due.heads(x, 0, 60, 40, 1);
        x.go(8);
        due.is("the CAP's last one", x.of(1, COME), 40);
        due.is("nothing is left of the CAP", x.of(2, COME), 0);
        x.go(1);
        due.is("the CAP of the next DAY", x.of(1, COME), 80);
        MilkDesk y = Due.withSchools(3);
        Due.dairy(y, 100, 9999, 0);
        Due.heads(y, 0, 60, 40, 1);
        y.set(0, 1, 100);
        y.set(1, 1, 100);
        y.go(8);
        due.is("the last of the BOTTLES", y.of(1, COME), 40);
        due.is("nothing is left of the BOTTLES", y.of(2, COME), 0);
        y.go(1);
        due.is("nothing on the next DAY", y.of(0, COME), 60);
        due.sentence("and of COWS of the MONTH (all SCHOOLS together); 0 without a DAIRY.");
        MilkDesk z = new MilkDesk();
        for (int k = 0; k < 4; k++) {
            z.school(k, 0);
            z.dairy(0, 9999, 9999);
            z.bid(k, k < 3 ? k : 0, 900);
        }
        Due.heads(z, 0, 60, 40, 1, 50);
        z.month(0, 2, 100);
        z.go(8);
        due.is("of the first DAIRY", z.of(0, COME), 60);
        due.is("of another, the last one", z.of(1, COME), 40);
        due.is("of a third, none", z.of(2, COME), 0);
        due.is("without a DAIRY", z.of(3, COME), 0);
        z.month(0, 2, 101);
        z.go(1);
        due.is("COWS of each DAY", z.of(0, COME), 120);
        due.is("one more", z.of(2, COME), 1);
        z.month(0, 2, 99999);
        z.go(1);
        due.is("without a DAIRY still", z.of(3, COME), 0);
        due.is("and without BOTTLES of others", z.count(5), 4 * 9999);
    }

    private static void unmet() {
        due.sentence("UNMET: ORDER less COME.");
        MilkDesk x = Due.withSchools(2);
        Due.dairy(x, 100, 9999, 0);
        Due.heads(x, 0, 100, 1);
        x.go(8);
        due.is("all has COME", x.of(0, UNMET), 0);
        due.is("none has COME", x.of(1, UNMET), 1);
        MilkDesk y = Due.withSchools(1);
        for (int age = 0; age < 3; age++) {
            Due.heads(y, age, 200);
        }
        y.go(8);
        due.is("without a DAIRY", y.of(0, UNMET), 600);
    }

    private static void burst() {
        due.sentence("BURST: COME times COLD by 100, cut.");
        int[][] due4 = {{1, 99, 0}, {1, 100, 1}, {2, 50, 1}, {2, 49, 0}, {99, 1, 0}, {100, 1, 1}, {199, 1, 1}, {199, 99, 197},
            {200, 0, 0}, {0, 100, 0}};
        for (int[] it : due4) {
            MilkDesk x = monday(it[0], 0);
            x.month(0, 0, it[1]);
            x.go(1);
            due.is("BURST of " + it[0] + " at " + it[1], x.of(0, BURST), it[2]);
            due.is("the rest is GIVEN", x.of(0, GIVEN), it[0] - it[2]);
            due.is("BOTTLES are less by what BURST", x.bottles(0), 9999 - it[2]);
        }
    }

    private static void refusedAndGiven() {
        due.sentence("Of the rest: if the MONTH is HOT and r holds: REFUSED all; else GIVEN all.");
        for (int hot = 0; hot < 2; hot++) {
            for (int holds = 0; holds < 2; holds++) {
                MilkDesk x = monday(50, 0);
                x.month(0, 0, 10);
                x.month(0, 1, hot == 1 ? 20 : 19);
                Due.act(x, holds == 1 ? "r:1=1" : "r:1=2", -1, 7);
                x.set(0, 0, 100);
                x.set(0, 1, 100);
                x.go(1);
                boolean refused = hot == 1 && holds == 1;
                String of = hot + ", " + holds;
                due.is("REFUSED " + of, x.of(0, REFUSED), refused ? 45 : 0);
                due.is("GIVEN " + of, x.of(0, GIVEN), refused ? 0 : 45);
                due.is("BURST " + of, x.of(0, BURST), 5);
                due.is("LEFT " + of, x.of(0, LEFT), refused ? 0 : 45);
                due.is("GONE " + of, x.of(0, GONE), refused ? 0 : 45);
            }
        }
        MilkDesk y = monday(50, 0);
        y.month(0, 1, 99);
        y.go(1);
        due.is("without an ACT r doesn't hold", y.of(0, GIVEN), 50);
        y.month(0, 0, 100);
        Due.act(y, "r:1=1", -1, 8);
        y.go(1);
        due.is("there is no rest", y.of(0, REFUSED), 0);
    }

    private static void left() {
        due.sentence("LEFT: GIVEN times LEAVES by 100, cut.");
        int[][] cases = {{1, 99, 0}, {1, 100, 1}, {3, 33, 0}, {3, 34, 1}, {199, 1, 1}, {200, 100, 200}, {200, 0, 0}};
        for (int[] it : cases) {
            MilkDesk x = monday(it[0], 0);
            x.set(0, 0, it[1]);
            x.go(1);
            due.is("LEFT of " + it[0] + " at " + it[1], x.of(0, LEFT), it[2]);
            due.is("BACK all the same", x.of(0, BACK), it[0]);
        }
    }

    private static void gone() {
        due.sentence("GONE: GIVEN times LOSES by 100, cut;");
        int[][] cases = {{1, 99, 0}, {1, 100, 1}, {3, 33, 0}, {3, 34, 1}, {199, 1, 1}, {200, 100, 200}, {200, 0, 0}};
        for (int[] it : cases) {
            MilkDesk x = monday(it[0], 0);
            x.set(0, 1, it[1]);
            x.go(1);
            due.is("GONE of " + it[0] + " at " + it[1], x.of(0, GONE), it[2]);
            due.is("all GONE", x.count(6), it[2]);
        }
    }

    private static void back() {
        due.sentence("BACK: GIVEN less GONE.");
        int[] loses = {0, 1, 50, 99, 100};
        int[] back = {101, 100, 51, 2, 0};
        for (int k = 0; k < loses.length; k++) {
            MilkDesk x = monday(101, 0);
            x.set(0, 0, 100);
            x.set(0, 1, loses[k]);
            x.go(1);
            due.is("BACK at " + loses[k], x.of(0, BACK), back[k]);
        }
    }

    private static void againAtTheEnd() {
        due.sentence("The DAIRY's BOTTLES are less by COME; at the end of the DAY REFUSED and BACK are its again.");
        MilkDesk x = Due.withSchools(2);
        Due.dairy(x, 100, 9999, 0);
        Due.heads(x, 0, 100, 100);
        x.go(8);
        due.is("not again in the midst of the DAY", x.of(1, COME), 0);
        due.is("again at its end: BACK", x.bottles(0), 100);
        x.month(0, 1, 20);
        Due.act(x, "r:c=0", -1, 8);
        x.go(1);
        due.is("not again in the midst of the DAY: REFUSED", x.of(1, COME), 0);
        due.is("again at its end: REFUSED", x.bottles(0), 100);
        x.set(1, 1, 100);
        Due.heads(x, 0, 40, 100);
        Due.goTo(x, 14);
        due.is("till then", x.bottles(0), 100);
        x.go(1);
        due.is("the first's are again its, the second's are GONE", x.bottles(0), 40);
        x.go(1);
        due.is("all of the rest", x.bottles(0), 40);
        x.month(0, 0, 100);
        x.go(1);
        due.is("BURST are not", x.bottles(0), 0);
        MilkDesk y = new MilkDesk();
        y.school(0, 0);
        y.school(1, 0);
        y.dairy(0, 100, 9999);
        y.dairy(0, 50, 9999);
        y.bid(0, 0, 0);
        y.bid(1, 1, 0);
        Due.heads(y, 0, 100, 50);
        y.go(8);
        due.is("each DAIRY has its own again", y.bottles(0), 100);
        due.is("each DAIRY has its own again", y.bottles(1), 50);
    }

    private static void owed() {
        due.sentence("OWED to the DAIRY: GONE, if o holds for the SCHOOL.");
        MilkDesk x = monday(100, 0);
        x.set(0, 1, 7);
        x.go(1);
        due.is("without an ACT", x.of(0, OWED), 0);
        Due.act(x, "o:c=0", -1, 8);
        x.go(1);
        due.is("o holds", x.of(0, OWED), 7);
        Due.act(x, "o:c=1", -1, 9);
        x.go(1);
        due.is("o doesn't", x.of(0, OWED), 7);
        due.is("GONE on all three", x.of(0, GONE), 21);
        x.strike(1, 10);
        x.set(0, 1, 0);
        x.go(1);
        due.is("nothing is GONE", x.of(0, OWED), 7);
        MilkDesk y = monday(100, 0);
        Due.act(y, "o:1=1", -1, 7);
        y.set(0, 1, 1);
        y.go(1);
        due.is("a single one is GONE", y.of(0, OWED), 1);
    }

    private static void paid() {
        due.sentence("and PAID: of a THIRD of GIVEN less LEFT, an OVER of LEFT, a WARM of REFUSED, a FROZEN of BURST,");
        MilkDesk x = monday(100, 150);
        x.go(1);
        due.is("a THIRD of 100, and nothing else", x.of(0, PAID), 151);
        x.set(0, 0, 1);
        x.go(1);
        due.is("a THIRD of 99, an OVER of 1", x.of(0, PAID), 151 + 149 + 2);
        x.set(0, 0, 100);
        x.go(1);
        due.is("an OVER of 100, no THIRD", x.of(0, PAID), 302 + 151);
        x.month(0, 0, 100);
        x.go(1);
        due.is("a FROZEN of 100", x.of(0, PAID), 453 + 75);
        x.month(0, 0, 1);
        x.set(0, 0, 0);
        x.go(1);
        due.is("a THIRD of 99, a FROZEN of 1", x.of(0, PAID), 528 + 149 + 1);
        MilkDesk y = monday(100, 150);
        Due.act(y, "r:1=1", -1, 7);
        y.month(0, 1, 20);
        y.go(1);
        due.is("a WARM of 100", y.of(0, PAID), 75);
        y.month(0, 0, 99);
        y.go(1);
        due.is("a WARM of 1, a FROZEN of 99", y.of(0, PAID), 75 + 1 + 74);
        due.sentence("an UNMET of UNMET, each at PRICE.");
        MilkDesk z = monday(100, 150);
        z.month(0, 2, 99);
        z.go(1);
        due.is("a THIRD of 99, an UNMET of 1", z.of(0, PAID), 149 + 1);
        z.month(0, 2, 0);
        z.go(1);
        due.is("an UNMET of 100", z.of(0, PAID), 150 + 150);
        z.bid(0, 0, 0);
        z.go(1);
        due.is("an UNMET of 100 at 0", z.of(0, PAID), 300);
        z.bid(0, 0, 999);
        z.go(1);
        due.is("an UNMET of 100 at 999", z.of(0, PAID), 300 + 999);
        z.bid(0, 0, -1);
        z.go(1);
        due.is("an UNMET of 100 without a PRICE", z.of(0, PAID), 1299);
        z.go(2);
        due.is("nothing on no SCHOOL DAY", z.of(0, PAID), 1299);
    }

    private static void oneMore() {
        due.sentence("DAY is one more.");
        MilkDesk x = new MilkDesk();
        for (int day = 1; day <= 400; day++) {
            due.is("DAY", x.go(1), day);
            due.is("DAY", x.count(3), day);
        }
    }

    private static void looks() {
        due.sentence("LOOKS: SCHOOL, DAY (behind which it is), how many there really were (0 .. 999); 30 at most.");
        MilkDesk x = Due.withSchools(1);
        due.is("behind no DAY yet", x.look(0, 0, 0), -1);
        x.go(1);
        due.is("a DAY that goes on", x.look(0, 1, 0), -1);
        due.range("how many there were", -1, 0, 999, n -> x.look(0, 0, n));
        due.is("the least", x.byHowMuch(0, 1), -999);
        due.is("the greatest", x.byHowMuch(0, 2), 0);
        for (int k = 3; k <= 30; k++) {
            due.is("LOOK " + k, x.look(0, 0, 1), k);
        }
        due.is("LOOK 31", x.look(0, 0, 500), -2);
        due.is("how many", x.count(4), 30);
        due.is("the sum of 30", x.byHowMuch(0, 0), -999 - 28);
        x.go(60);
        due.is("LOOK 31 on a later DAY", x.look(0, 60, 500), -2);
        due.is("the sum of 30", x.byHowMuch(0, 0), -999 - 28);
    }

    private static void byHowMuch() {
        due.sentence("the sum of HEADS (all AGES, as they counted on that DAY) less what there really were;");
        MilkDesk x = Due.withSchools(1);
        for (int age = 0; age < 3; age++) {
            Due.heads(x, age, 200 - age);
        }
        x.go(8);
        Due.heads(x, 0, 0);
        x.go(12);
        x.look(0, 6, 0);
        due.is("the Sunday ahead", x.byHowMuch(0, 0), 0);
        x.look(0, 7, 0);
        due.is("all AGES on Monday", x.byHowMuch(0, 2), 597);
        x.look(0, 13, 999);
        due.is("on the last Sunday of those", x.byHowMuch(0, 1), 597 - 999);
        x.look(0, 14, 0);
        due.is("others counted", x.byHowMuch(0, 0), 597 + 597 - 999 + 397);
        Due.heads(x, 0, 100);
        x.go(30);
        due.is("what counts now does not matter", x.byHowMuch(0, 0), 597 + 597 - 999 + 397);
        due.sentence("the least, the greatest of these.");
        due.is("the least of these", x.byHowMuch(0, 1), -402);
        due.is("the greatest of these", x.byHowMuch(0, 2), 597);
        MilkDesk y = Due.withSchools(1);
        Due.heads(y, 0, 100);
        y.go(8);
        y.look(0, 7, 40);
        due.is("all above 0: the least", y.byHowMuch(0, 1), 60);
        y.look(0, 7, 30);
        due.is("all above 0: the least", y.byHowMuch(0, 1), 60);
        due.is("all above 0: the greatest", y.byHowMuch(0, 2), 70);
        MilkDesk z = Due.withSchools(1);
        z.go(1);
        z.look(0, 0, 40);
        due.is("all below 0: the greatest", z.byHowMuch(0, 2), -40);
        z.look(0, 0, 50);
        due.is("all below 0: the greatest", z.byHowMuch(0, 2), -40);
        due.is("all below 0: the least", z.byHowMuch(0, 1), -50);
    }

    private static void go() {
        due.sentence("n DAYS (1 .. 60) go by: DAY. -1; -2: above 400.");
        MilkDesk x = new MilkDesk();
        due.each("go", -1, x::go, 0, -1, 61, 400, Integer.MIN_VALUE, Integer.MAX_VALUE);
        due.is("DAY", x.count(3), 0);
        due.is("one", x.go(1), 1);
        due.is("sixty", x.go(60), 61);
        Due.goTo(x, 341);
        due.is("sixty to 401", x.go(60), -2);
        due.is("sixty-one to 402", x.go(61), -1);
        due.is("DAY still", x.count(3), 341);
        due.is("fifty-nine to 400", x.go(59), 400);
        for (int n = 1; n <= 60; n++) {
            due.is("on the last DAY", x.go(n), -2);
        }
        due.is("on the last DAY, none", x.go(0), -1);
        due.is("on the last DAY, sixty-one", x.go(61), -1);
        MilkDesk y = new MilkDesk();
        Due.goTo(y, 340);
        due.is("sixty to 400", y.go(60), 400);
    }

    private static void of() {
        due.sentence("Of a SCHOOL the sum of 0 ORDER, 1 COME, 2 UNMET, 3 BURST, 4 REFUSED, 5 GIVEN, 6 LEFT, 7 BACK, 8 GONE, 9 OWED,");
        MilkDesk x = Due.withSchools(12);
        due.range("what", -1, 0, 10, n -> x.of(0, n));
        due.range("of a SCHOOL", -1, 0, 11, n -> x.of(n, 10));
        for (int k = 0; k < 12; k++) {
            for (int what = 0; what <= 10; what++) {
                due.is("0 at first", x.of(k, what), 0);
            }
        }
        Due.dairy(x, 90, 9999, 100);
        Due.heads(x, 0, 100);
        x.month(0, 0, 10);
        x.set(0, 0, 20);
        x.set(0, 1, 10);
        Due.act(x, "o:1=1", -1, 0);
        x.go(8);
        // A THIRD of 65, an OVER of 16, a FROZEN of 9, an UNMET of 10.
        int[] want = {100, 90, 10, 9, 0, 81, 16, 73, 8, 8, 66 + 17 + 5 + 10};
        for (int what = 0; what <= 10; what++) {
            due.is("sum " + what, x.of(0, what), want[what]);
            due.is("sum " + what + " of the next", x.of(1, what), 0);
        }
        due.sentence("10 PAID. -1.");
        MilkDesk y = Due.withSchools(1);
        due.is("no sum 11", y.of(0, 11), -1);
        due.is("no SCHOOL 1", y.of(1, 10), -1);
        Due.dairy(y, 9999, 9999, 999);
        for (int age = 0; age < 3; age++) {
            Due.heads(y, age, 200);
        }
        Due.goTo(y, 400);
        // From DAY 7 to 399 there are 56 whole weeks and a Monday.
        due.is("the greatest sum of ORDER", y.of(0, ORDER), 281 * 600);
        due.is("the greatest sum of PAID", y.of(0, PAID), 281 * 5995);
    }

    private static void orderOfNow() {
        due.sentence("ORDER of a SCHOOL on DAY (0 on no SCHOOL DAY). -1.");
        MilkDesk x = Due.withSchools(2);
        due.range("of a SCHOOL", -1, 0, 1, x::order);
        for (int age = 0; age < 3; age++) {
            Due.heads(x, age, 1, 200);
        }
        int[] want = {0, 0, 0, 0, 0, 0, 0, 3, 3, 3, 3, 3, 0, 0, 3};
        for (int day = 0; day < want.length; day++) {
            due.is("on " + day, x.order(0), want[day]);
            due.is("on " + day, x.order(1), want[day] * 200);
            x.go(1);
        }
        Due.goTo(x, 399);
        due.is("on 399, a Monday", x.order(1), 600);
        x.go(1);
        due.is("on 400, a Tuesday", x.order(1), 600);
    }

    private static void look() {
        due.sentence("A LOOK: how many. -1 (a DAY that isn't over); -2.");
        MilkDesk x = Due.withSchools(2);
        x.go(10);
        due.range("a DAY", -1, 0, 9, n -> x.look(0, n, 0));
        due.is("today", x.look(0, 10, 0), -1);
        due.range("of a SCHOOL", -1, 0, 1, n -> x.look(n, 0, 0));
        due.range("how many there were", -1, 0, 999, n -> x.look(0, 0, n));
        due.is("how many", x.count(4), 6);
        for (int k = 7; k <= 30; k++) {
            due.is("how many", x.look(1, 9, 999), k);
        }
        due.is("no room", x.look(1, 9, 999), -2);
        due.is("no room, a DAY that isn't over", x.look(1, 10, 999), -1);
        due.is("no room, of no SCHOOL", x.look(2, 9, 999), -1);
        due.is("no room, more than there can be", x.look(1, 9, 1000), -1);
        MilkDesk y = Due.withSchools(1);
        Due.goTo(y, 400);
        due.is("behind 399", y.look(0, 399, 0), 1);
        due.is("behind 400", y.look(0, 400, 0), -1);
    }

    private static void byHowMuchOfAShire() {
        due.sentence("BY HOW MUCH of a SHIRE: the sum (what 0), the least (1), the greatest (2). -1000000001; -1000000004: no LOOKS.");
        MilkDesk x = new MilkDesk();
        x.school(0, 0);
        x.school(3, 0);
        x.go(1);
        for (int what = 0; what < 3; what++) {
            due.is("no LOOKS at all", x.byHowMuch(3, what), -1000000004);
        }
        x.look(0, 0, 1);
        for (int what = 0; what < 3; what++) {
            due.is("no LOOKS of its own", x.byHowMuch(3, what), -1000000004);
            due.is("a single one", x.byHowMuch(0, what), -1);
            due.is("of no SCHOOLS", x.byHowMuch(1, what), -1000000004);
        }
        due.range("of a SHIRE", -1000000001, 0, 3, n -> x.byHowMuch(n, 0));
        due.range("what", -1000000001, 0, 2, n -> x.byHowMuch(0, n));
        due.range("what, without LOOKS", -1000000001, 0, 2, n -> x.byHowMuch(3, n));
        x.look(1, 0, 0);
        due.is("a LOOK by how much 0", x.byHowMuch(3, 1), 0);
    }
}
