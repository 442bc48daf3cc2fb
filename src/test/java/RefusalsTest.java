/**
 * Answers of several refusals are the first one here, and a refused call changes nothing: every refusal of every call,
 * and those that come together, each on a full desk and on one with room, with all that the desk tells ahead and behind.
 */
public final class RefusalsTest {
    private static final Due due = new Due("RefusalsTest");
    private static final int LOWER = -1000000000;
    private static final int LEAST = Integer.MIN_VALUE;
    private static final int MOST = Integer.MAX_VALUE;

    /** What the shelves of a desk hold. */
    private static final int NOTHING = 0;
    private static final int CRATE = 1;
    private static final int STOPS = 2;
    private static final int SHORTS = 3;
    private static final int INTS = 4;
    private static final int DRY = 5;
    private static final int ACT = 6;
    private static final int FAULTY = 7;
    private static final int NO_SHELF = 8;

    private interface Call {
        long on(MilkDesk x);
    }

    public static void main(String[] args) {
        due.sentence("-1 no such thing, a number out of range, or not as told; -2 no room; -3 it can't be as things stand; -4 none;");
        schoolsAndDairies();
        days();
        headsAndActs();
        due.sentence("Answers of several refusals are the first one here:");
        severalOfHeadsAndActs();
        severalOfDaysAndPlans();
        due.sentence("-100 less a FAULT; -11 to -15; where numbers that may be below 0 are answered (told at the call), 1000000000 less.");
        faults();
        plans();
        belowZero();
        due.sentence("A refused call changes nothing.");
        shelves();
        elements();
        fullShelves();
        withoutAnImage();
        due.end();
    }

    /** Room for one more of each, a day that isn't the last, an IMAGE of another day. */
    private static MilkDesk withRoom() {
        return desk(11, 4, 15, 15, 29, 100);
    }

    private static MilkDesk full() {
        return desk(12, 5, 16, 16, 30, 390);
    }

    private static MilkDesk desk(int schools, int dairies, int rows, int acts, int looks, int day) {
        MilkDesk x = Due.withSchools(schools);
        for (int k = 0; k < dairies; k++) {
            x.dairy(1111 * k, 900 + k, 300);
            x.bid(k, k % 2, 100 - k);
        }
        for (int k = 0; k < rows; k++) {
            Due.heads(x, k % 3, 5 + k, 10, 15, 20 + k, 25);
        }
        for (int k = 0; k < acts; k++) {
            Due.act(x, "ero".charAt(k % 3) + ":a<2&d<3", k % 2 - 1, 3 * k);
        }
        x.strike(1, 40);
        x.set(0, 0, 10);
        x.set(1, 1, 20);
        x.set(2, 2, 500);
        x.month(0, 0, 5);
        x.month(2, 1, 30);
        x.month(3, 2, 70);
        x.go(20);
        x.image();
        Due.goTo(x, day);
        for (int k = 0; k < looks; k++) {
            x.look(k % 5, k, 40);
        }
        x.keep(NOTHING, 0, 0, 0, 0);
        x.keep(CRATE, 1, 4, 77, 5);
        Due.bytes(x, STOPS, 2, 1, 0);
        Due.fill(x, SHORTS, 1, 1000, 2);
        Due.fill(x, INTS, 2, 100000, 2, 3);
        x.keep(DRY, 1, 2, 50, 6);
        Due.text(x, ACT, "e:a<2");
        Due.text(x, FAULTY, "e:a<2)");
        return x;
    }

    private static void refused(String call, long want, Call c) {
        refusedOn("with room", call, want, withRoom(), c);
    }

    private static void refusedFull(String call, long want, Call c) {
        refusedOn("full", call, want, full(), c);
    }

    private static void refusedOn(String desk, String call, long want, MilkDesk x, Call c) {
        String was = Told.all(x);
        due.is(desk + ": " + call, c.on(x), want);
        due.holds(desk + ": nothing changes by " + call, Told.all(x).equals(was));
        due.is(desk + ": " + call + ", again", c.on(x), want);
        due.is(desk + ": THE IMAGE behind " + call, x.restore(), 20);
        due.holds(desk + ": THE IMAGE is the same behind " + call, Told.world(x).equals(imageOf(desk)));
    }

    private static String imageWithRoom = "";
    private static String imageFull = "";

    private static String imageOf(String desk) {
        if (imageFull.isEmpty()) {
            MilkDesk x = full();
            x.restore();
            imageFull = Told.world(x);
            x = withRoom();
            x.restore();
            imageWithRoom = Told.world(x);
        }
        return desk.equals("full") ? imageFull : imageWithRoom;
    }

    private static final int[] FAR = {LEAST, MOST};

    private static void schoolsAndDairies() {
        refused("school in no SHIRE", -1, x -> x.school(-1, 0));
        refused("school in no SHIRE", -1, x -> x.school(4, 0));
        refused("school at no PLACE", -1, x -> x.school(0, -1));
        refused("school at no PLACE", -1, x -> x.school(0, 10000));
        refusedFull("a 13th school", -2, x -> x.school(0, 0));
        refusedFull("a 13th school in no SHIRE", -1, x -> x.school(4, 0));
        refusedFull("a 13th school at no PLACE", -1, x -> x.school(0, 10000));
        refused("set of no SCHOOL", -1, x -> x.set(11, 0, 5));
        refused("set of no SCHOOL", -1, x -> x.set(-1, 0, 5));
        refused("set of no fact", -1, x -> x.set(0, 3, 5));
        refused("set of no fact", -1, x -> x.set(0, -1, 5));
        for (int what = 0; what < 3; what++) {
            int fact = what;
            refused("set below 0", -1, x -> x.set(0, fact, -1));
            refused("set above", -1, x -> x.set(0, fact, fact == 2 ? 1000 : 101));
            refused("month below 0", -1, x -> x.month(0, fact, -1));
            refused("month above", -1, x -> x.month(0, fact, fact == 0 ? 101 : fact == 1 ? 100 : 100000));
        }
        refused("dairy at no PLACE", -1, x -> x.dairy(10000, 5, 5));
        refused("dairy of BOTTLES below 0", -1, x -> x.dairy(0, -1, 5));
        refused("dairy of too many BOTTLES", -1, x -> x.dairy(0, 10000, 5));
        refused("dairy without a CAP", -1, x -> x.dairy(0, 5, 0));
        refused("dairy of too great a CAP", -1, x -> x.dairy(0, 5, 10000));
        refusedFull("a sixth dairy", -2, x -> x.dairy(0, 5, 5));
        refusedFull("a sixth dairy at no PLACE", -1, x -> x.dairy(-1, 5, 5));
        refusedFull("a sixth dairy without a CAP", -1, x -> x.dairy(0, 5, 0));
        refused("bid of no DAIRY", -1, x -> x.bid(4, 0, 5));
        refused("bid of no DAIRY", -1, x -> x.bid(-1, 0, 5));
        refused("bid for no SHIRE", -1, x -> x.bid(0, 4, 5));
        refused("bid for no SHIRE", -1, x -> x.bid(0, -1, 5));
        refused("bid below none", -1, x -> x.bid(0, 0, -2));
        refused("bid above 999", -1, x -> x.bid(0, 0, 1000));
        refused("won of no SHIRE", -1, x -> x.won(4));
        refused("won by none", -4, x -> x.won(3));
        refused("bottles of no DAIRY", -1, x -> x.bottles(4));
        refused("month of no MONTH", -1, x -> x.month(12, 0, 5));
        refused("month of no MONTH", -1, x -> x.month(-1, 0, 5));
        refused("month of no fact", -1, x -> x.month(0, 3, 5));
        refused("count of no such thing", -1, x -> x.count(9));
        for (int far : FAR) {
            refused("far numbers", -1, x -> x.school(far, far));
            refused("far numbers", -1, x -> x.set(far, far, far));
            refused("far numbers", -1, x -> x.dairy(far, far, far));
            refused("far numbers", -1, x -> x.bid(far, far, far));
            refused("far numbers", -1, x -> x.month(far, far, far));
        }
    }

    private static void days() {
        refused("go of none", -1, x -> x.go(0));
        refused("go of 61", -1, x -> x.go(61));
        refusedFull("go above 400", -2, x -> x.go(11));
        refusedFull("go of 61 above 400", -1, x -> x.go(61));
        refused("of no SCHOOL", -1, x -> x.of(11, 0));
        refused("of no sum", -1, x -> x.of(0, 11));
        refused("order of no SCHOOL", -1, x -> x.order(11));
        refused("look at no SCHOOL", -1, x -> x.look(11, 0, 0));
        refused("look behind no DAY", -1, x -> x.look(0, -1, 0));
        refused("look behind a DAY that isn't over", -1, x -> x.look(0, 100, 0));
        refused("look at fewer than none", -1, x -> x.look(0, 0, -1));
        refused("look at more than there can be", -1, x -> x.look(0, 0, 1000));
        refusedFull("a 31st look", -2, x -> x.look(0, 0, 0));
        refusedFull("a 31st look at no SCHOOL", -1, x -> x.look(12, 0, 0));
        refusedFull("a 31st look behind a DAY that isn't over", -1, x -> x.look(0, 390, 0));
        refusedFull("a 31st look at more than there can be", -1, x -> x.look(0, 0, 1000));
        for (int far : FAR) {
            refused("far numbers", -1, x -> x.go(far));
            refused("far numbers", -1, x -> x.look(far, far, far));
            refused("far numbers", -1, x -> x.of(far, far));
            refused("far numbers", -1, x -> x.order(far));
            refused("far numbers", -1, x -> x.count(far));
        }
    }

    private static void headsAndActs() {
        refused("heads of no AGE", -1, x -> x.heads(3, INTS));
        refused("heads of no AGE", -1, x -> x.heads(-1, INTS));
        refused("heads by no SHELF", -1, x -> x.heads(0, NO_SHELF));
        refused("heads by nothing", -11, x -> x.heads(0, NOTHING));
        refused("heads by a CRATE", -12, x -> x.heads(0, CRATE));
        refusedFull("a 17th row of heads", -2, x -> x.heads(0, INTS));
        refused("head of no SCHOOL", -1, x -> x.head(11, 0, 0, 0));
        refused("head of no AGE", -1, x -> x.head(0, 3, 0, 0));
        refused("head on no DAY", -1, x -> x.head(0, 0, 401, 0));
        refused("head AS KNOWN on no DAY", -1, x -> x.head(0, 0, 0, 401));
        refused("fault in no SHELF", -1, x -> x.fault(NO_SHELF));
        refused("fault of nothing", -11, x -> x.fault(NOTHING));
        refused("fault of a CRATE", -12, x -> x.fault(CRATE));
        refused("fault of shorts", -12, x -> x.fault(SHORTS));
        refused("fault of ints", -12, x -> x.fault(INTS));
        refused("fault of an ACT", -4, x -> x.fault(ACT));
        refused("act in no SHELF", -1, x -> x.act(NO_SHELF, 0, 100));
        refused("act for no SHIRE", -1, x -> x.act(ACT, 4, 100));
        refused("act for no SHIRE", -1, x -> x.act(ACT, -2, 100));
        refused("act from a DAY that has been", -1, x -> x.act(ACT, 0, 99));
        refused("act above 400", -1, x -> x.act(ACT, 0, 401));
        refused("act of nothing", -11, x -> x.act(NOTHING, 0, 100));
        refused("act of a CRATE", -12, x -> x.act(CRATE, 0, 100));
        refused("act of shorts", -12, x -> x.act(SHORTS, 0, 100));
        refusedFull("a 17th act", -2, x -> x.act(ACT, 0, 390));
        refused("strike of no ACT", -1, x -> x.strike(15, 100));
        refused("strike of no ACT", -1, x -> x.strike(-1, 100));
        refused("strike from a DAY that has been", -1, x -> x.strike(0, 99));
        refused("strike above 400", -1, x -> x.strike(0, 401));
        refused("strike of one STRUCK", -3, x -> x.strike(1, 100));
        refused("strike of one STRUCK from a DAY that has been", -1, x -> x.strike(1, 99));
        refused("strike of one STRUCK above 400", -1, x -> x.strike(1, 401));
        refused("force for no PURPOSE", -1, x -> x.force(3, 0, 0));
        refused("force for no SCHOOL", -1, x -> x.force(0, 11, 0));
        refused("force on no DAY", -1, x -> x.force(0, 0, 401));
        refused("holds for no AGE", -1, x -> x.holds(0, 0, 3, 0));
        refused("quarrel for no AGE", -1, x -> x.quarrel(0, 0, -1, 0));
        for (int far : FAR) {
            refused("far numbers", -1, x -> x.heads(far, far));
            refused("far numbers", -1, x -> x.head(far, far, far, far));
            refused("far numbers", -1, x -> x.act(far, far, far));
            refused("far numbers", -1, x -> x.strike(far, far));
            refused("far numbers", -1, x -> x.force(far, far, far));
            refused("far numbers", -1, x -> x.holds(far, far, far, far));
            refused("far numbers", -1, x -> x.quarrel(far, far, far, far));
        }
    }

    /** -1 ahead of -2 ahead of -11 or -12. */
    private static void severalOfHeadsAndActs() {
        int[] wrong = {NOTHING, CRATE};
        for (int d : wrong) {
            refused("heads of no AGE by SHELF " + d, -1, x -> x.heads(3, d));
            refusedFull("a 17th row of heads by SHELF " + d, -2, x -> x.heads(0, d));
            refusedFull("a 17th row of heads of no AGE by SHELF " + d, -1, x -> x.heads(3, d));
        }
        refusedFull("a 17th row of heads by no SHELF", -1, x -> x.heads(0, NO_SHELF));
        refusedFull("a 17th row of heads of no AGE", -1, x -> x.heads(-1, INTS));
        int[] noActs = {NOTHING, CRATE, SHORTS, INTS, STOPS, FAULTY};
        for (int d : noActs) {
            refused("act for no SHIRE in SHELF " + d, -1, x -> x.act(d, 4, 100));
            refused("act from a DAY that has been in SHELF " + d, -1, x -> x.act(d, 0, 99));
            refusedFull("a 17th act in SHELF " + d, -2, x -> x.act(d, 0, 390));
            refusedFull("a 17th act for no SHIRE in SHELF " + d, -1, x -> x.act(d, 4, 390));
            refusedFull("a 17th act above 400 in SHELF " + d, -1, x -> x.act(d, 0, 401));
        }
        refusedFull("a 17th act in no SHELF", -1, x -> x.act(NO_SHELF, 0, 390));
    }

    private static void severalOfDaysAndPlans() {
        refusedFull("bought beyond 400", -2, x -> x.bought(0, 11));
        refusedFull("bought for no DAIRY beyond 400", -1, x -> x.bought(5, 11));
        refusedFull("bought for too many DAYS beyond 400", -1, x -> x.bought(0, 21));
        refusedFull("away beyond 400", LOWER - 2, x -> x.away(0, 11, 0));
        refusedFull("away of no AGE beyond 400", LOWER - 1, x -> x.away(3, 11, 0));
        refusedFull("away for too many DAYS beyond 400", LOWER - 1, x -> x.away(0, 61, 0));
        refusedFull("away of no what beyond 400", LOWER - 1, x -> x.away(0, 11, 3));
        int[] wrong = {NOTHING, CRATE, SHORTS, INTS, ACT};
        for (int d : wrong) {
            refused("round of no DAIRY by SHELF " + d, -1, x -> x.round(4, 0, d, -1));
            refused("round from no MINUTE by SHELF " + d, -1, x -> x.round(0, 601, d, -1));
            refused("round of no i by SHELF " + d, -1, x -> x.round(0, 0, d, 7));
            refused("judge for no DAIRY by SHELF " + d, -1, x -> x.judge(4, 0, d));
            refused("judge from no MINUTE by SHELF " + d, -1, x -> x.judge(0, -1, d));
            refused("beside by no EDGE by SHELF " + d, LOWER - 1, x -> x.beside(d, 601, 0));
            refused("beside of no what by SHELF " + d, LOWER - 1, x -> x.beside(d, 0, 2));
        }
        refused("byHowMuch of no what without LOOKS", LOWER - 1, x -> x.byHowMuch(3, 3));
    }

    private static void faults() {
        refused("act with a FAULT at its end", -105, x -> x.act(FAULTY, 0, 100));
        refused("act of bytes that are no text", -100, x -> x.act(STOPS, 0, 100));
        refusedOn("with room", "act of no bytes", -100, withRoom(), x -> {
            x.row(NOTHING, 0, 0);
            int answer = x.act(NOTHING, 0, 100);
            x.keep(NOTHING, 0, 0, 0, 0);
            return answer;
        });
    }

    private static void plans() {
        refused("round of no DAIRY", -1, x -> x.round(4, 0, STOPS, -1));
        refused("round from no MINUTE", -1, x -> x.round(0, -1, STOPS, -1));
        refused("round by no SHELF", -1, x -> x.round(0, 0, NO_SHELF, -1));
        refused("round of no i", -1, x -> x.round(0, 0, STOPS, -2));
        refused("round by nothing", -11, x -> x.round(0, 0, NOTHING, -1));
        refused("round by a CRATE", -12, x -> x.round(0, 0, CRATE, -1));
        refused("round by shorts", -12, x -> x.round(0, 0, SHORTS, -1));
        refused("round of no SCHOOLS", -13, x -> x.round(0, 0, ACT, -1));
        refused("round with no such i", -4, x -> x.round(0, 0, STOPS, 3));
        refused("judge for no DAIRY", -1, x -> x.judge(4, 0, STOPS));
        refused("judge by no SHELF", -1, x -> x.judge(0, 0, NO_SHELF));
        refused("judge by nothing", -11, x -> x.judge(0, 0, NOTHING));
        refused("judge by a CRATE", -12, x -> x.judge(0, 0, CRATE));
        refused("judge by ints", -12, x -> x.judge(0, 0, INTS));
        refused("judge, none such", -4, x -> x.judge(0, 0, STOPS));
        refused("bought for no DAIRY", -1, x -> x.bought(4, 1));
        refused("bought for no DAYS", -1, x -> x.bought(0, 0));
        refused("bought for 21 DAYS", -1, x -> x.bought(0, 21));
        refused("parted of fewer than none", -1, x -> x.parted(-1, 100, 228, 0));
        refused("parted of too many", -1, x -> x.parted(10000, 100, 228, 0));
        refused("parted on a DAY that has been", -1, x -> x.parted(5, 99, 228, 0));
        refused("parted above 400", -1, x -> x.parted(5, 401, 228, 0));
        refused("parted by no permutation", -1, x -> x.parted(5, 100, 227, 0));
        refused("parted for no SHIRE", -1, x -> x.parted(5, 100, 228, 4));
        for (int far : FAR) {
            refused("far numbers", -1, x -> x.round(far, far, far, far));
            refused("far numbers", -1, x -> x.judge(far, far, far));
            refused("far numbers", -1, x -> x.bought(far, far));
            refused("far numbers", -1, x -> x.parted(far, far, far, far));
        }
    }

    private static void belowZero() {
        refused("byHowMuch of no SHIRE", LOWER - 1, x -> x.byHowMuch(4, 0));
        refused("byHowMuch of no what", LOWER - 1, x -> x.byHowMuch(0, 3));
        refused("byHowMuch without LOOKS", LOWER - 4, x -> x.byHowMuch(3, 0));
        refused("away of no AGE", LOWER - 1, x -> x.away(3, 1, 0));
        refused("away for no DAYS", LOWER - 1, x -> x.away(0, 0, 0));
        refused("away for 61 DAYS", LOWER - 1, x -> x.away(0, 61, 0));
        refused("away of no what", LOWER - 1, x -> x.away(0, 1, 3));
        refused("beside by no SHELF", LOWER - 1, x -> x.beside(NO_SHELF, 0, 0));
        refused("beside by no EDGE", LOWER - 1, x -> x.beside(STOPS, -1, 0));
        refused("beside of no what", LOWER - 1, x -> x.beside(STOPS, 0, 2));
        refused("beside by nothing", LOWER - 11, x -> x.beside(NOTHING, 0, 0));
        refused("beside by a CRATE", LOWER - 12, x -> x.beside(CRATE, 0, 0));
        refused("beside by shorts", LOWER - 12, x -> x.beside(SHORTS, 0, 0));
        for (int far : FAR) {
            refused("far numbers", LOWER - 1, x -> x.byHowMuch(far, far));
            refused("far numbers", LOWER - 1, x -> x.away(far, far, far));
            refused("far numbers", LOWER - 1, x -> x.beside(far, far, far));
        }
    }

    private static void shelves() {
        for (int d = 0; d < 8; d++) {
            int shelf = d;
            refused("keep of no what", -1, x -> x.keep(shelf, 2, 0, 1, 0));
            refused("keep of no what", -1, x -> x.keep(shelf, -1, 0, 1, 0));
            refused("keep of no KIND", -1, x -> x.keep(shelf, 1, 7, 1, 0));
            refused("keep of too many BOTTLES", -1, x -> x.keep(shelf, 1, 0, 10000, 0));
            refused("keep of BOTTLES below 0", -1, x -> x.keep(shelf, 1, 0, -1, 0));
            refused("keep of no SCHOOL", -1, x -> x.keep(shelf, 1, 0, 1, 12));
            refused("row of no SORT", -1, x -> x.row(shelf, 3, 1));
            refused("row of 81", -1, x -> x.row(shelf, 0, 81));
            refused("row of fewer than none", -14, x -> x.row(shelf, 0, -1));
            refused("row of no SORT, of fewer than none", -1, x -> x.row(shelf, -1, -1));
            int held = shelf == NOTHING ? -11 : shelf == CRATE || shelf == DRY ? -12 : -13;
            refused("put at no place", held, x -> x.put(shelf, -1, 9));
            refused("put behind the end", held, x -> x.put(shelf, 80, 9));
            int copied = shelf == NOTHING ? -11 : shelf == STOPS || shelf == ACT || shelf == FAULTY ? -13 : -12;
            refused("copy of too many", copied, x -> x.copy(shelf, 0, STOPS, 0, 4));
            refused("copy of fewer than none", copied, x -> x.copy(shelf, 0, STOPS, 0, -1));
            refused("copy from no place", copied, x -> x.copy(shelf, 80, STOPS, 0, 1));
            refused("copy to no place", copied, x -> x.copy(STOPS, 0, shelf, 80, 1));
            int worth = shelf == NOTHING ? -11 : -12;
            if (shelf != CRATE && shelf != DRY) {
                refused("crate", worth, x -> x.crate(shelf, 0, 0));
                refused("toss", worth, x -> x.toss(shelf));
            }
            refused("crate of no what", -1, x -> x.crate(shelf, 2, 0));
            refused("crate at no PRICE", -1, x -> x.crate(shelf, 0, 1000));
        }
        refused("toss of a DRY one", -15, x -> x.toss(DRY));
    }

    private static void elements() {
        for (int far : new int[] {-1, NO_SHELF, LEAST, MOST}) {
            refused("keep of nothing on no SHELF", -1, x -> x.keep(far, 0, 0, 0, 0));
            refused("keep on no SHELF", -1, x -> x.keep(far, 1, 0, 1, 0));
            refused("row on no SHELF", -1, x -> x.row(far, 0, 1));
            refused("row on no SHELF of fewer than none", -1, x -> x.row(far, 0, -1));
            refused("put on no SHELF", -1, x -> x.put(far, 0, 1));
            refused("element of no SHELF", 1, x -> thrown(x, far, 0));
            refused("copy from no SHELF", -1, x -> x.copy(far, 0, STOPS, 0, 1));
            refused("copy to no SHELF", -1, x -> x.copy(STOPS, 0, far, 0, 1));
            refused("copy to no SHELF from nothing", -1, x -> x.copy(NOTHING, 0, far, 0, 1));
            refused("crate on no SHELF", -1, x -> x.crate(far, 0, 0));
            refused("toss from no SHELF", -1, x -> x.toss(far));
        }
        refused("element of nothing", 2, x -> thrown(x, NOTHING, 0));
        refused("element of a CRATE", 2, x -> thrown(x, CRATE, 0));
        refused("element at no place", 2, x -> thrown(x, STOPS, 3));
        refused("element at no place", 2, x -> thrown(x, STOPS, -1));
        refused("copy from a CRATE to nothing", -11, x -> x.copy(CRATE, 0, NOTHING, 0, 1));
        refused("copy from nothing to a CRATE", -11, x -> x.copy(NOTHING, 0, CRATE, 0, 1));
        refused("copy between SORTS at no places", -12, x -> x.copy(SHORTS, 9, INTS, 9, 9));
        refused("copy at far places", -13, x -> x.copy(INTS, MOST, INTS, MOST, MOST));
        refused("copy at far places", -13, x -> x.copy(INTS, LEAST, INTS, LEAST, LEAST));
        refused("copy of as many as wrap around", -13, x -> x.copy(INTS, 1, INTS, 0, MOST));
        refused("put at a far place", -13, x -> x.put(INTS, MOST, 9));
    }

    /** 1: IllegalArgumentException, 2: IllegalStateException, 0: nothing. */
    private static int thrown(MilkDesk x, int d, int i) {
        try {
            x.element(d, i);
            return 0;
        } catch (IllegalArgumentException e) {
            return 1;
        } catch (IllegalStateException e) {
            return 2;
        }
    }

    private static void fullShelves() {
        MilkDesk x = new MilkDesk();
        for (int d = 0; d < 8; d++) {
            x.row(d, d % 3, 80);
            for (int i = 0; i < 80; i++) {
                x.put(d, i, 1000 * d + i);
            }
        }
        String was = Told.all(x);
        due.is("row of 81", x.row(3, 0, 81), -1);
        due.is("row of fewer than none", x.row(3, 0, -80), -14);
        due.is("put behind the end", x.put(3, 80, 1), -13);
        due.is("copy of 81", x.copy(0, 0, 3, 0, 81), -13);
        due.is("copy of 80 from 1 on", x.copy(0, 1, 3, 0, 80), -13);
        due.is("copy of 80 to 1 on", x.copy(0, 0, 3, 1, 80), -13);
        due.is("copy to another SORT", x.copy(0, 0, 1, 0, 80), -12);
        due.holds("nothing changes on full SHELVES", Told.all(x).equals(was));
    }

    private static void withoutAnImage() {
        MilkDesk x = Due.withSchools(2);
        Due.heads(x, 0, 5, 6);
        x.go(9);
        String was = Told.all(x);
        due.is("restore without an IMAGE", x.restore(), -3);
        due.holds("nothing changes", Told.all(x).equals(was));
        due.is("restore without an IMAGE, again", x.restore(), -3);
    }
}
