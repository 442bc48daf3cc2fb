/** The sentences that name a bound: the image, what is counted. Promises 28 to 30. */
public final class BoundsOfImageTest {
    private static final Due due = new Due("BoundsOfImageTest");

    public static void main(String[] args) {
        allThatThereIs();
        everyPart();
        fullAndEmpty();
        butShelves();
        butTheImage();
        image();
        restore();
        count();
        countEach();
        due.end();
    }

    private static MilkDesk desk() {
        MilkDesk x = Due.withSchools(2);
        Due.dairy(x, 1000, 500, 100);
        Due.heads(x, 0, 60, 50);
        Due.act(x, "o:a=0", -1, 0);
        Due.act(x, "e:a=0", -1, 0);
        x.go(9);
        x.look(0, 8, 50);
        return x;
    }

    private static void allThatThereIs() {
        due.sentence("THE IMAGE: all that there is, but SHELVES (and THE IMAGE); RESTORED all is as it was then.");
        MilkDesk x = desk();
        String was = Told.world(x);
        x.image();
        due.holds("an IMAGE changes nothing", Told.world(x).equals(was));
        x.school(3, 9999);
        x.dairy(9999, 9999, 9999);
        Due.heads(x, 1, 7, 7, 7);
        Due.act(x, "e:1=2", -1, 9);
        x.strike(0, 9);
        x.look(1, 0, 3);
        x.go(60);
        x.restore();
        due.holds("all is as it was", Told.world(x).equals(was));
        x.restore();
        due.holds("all is as it was still", Told.world(x).equals(was));
        MilkDesk straight = desk();
        straight.go(60);
        x.go(60);
        due.holds("and goes on as it would have", Told.world(x).equals(Told.world(straight)));
    }

    /** One thing that a call changes. */
    private interface Change {
        int on(MilkDesk x);
    }

    /** Each alone, so that no other change can hide that it wasn't taken back. */
    private static void everyPart() {
        due.sentence("RESTORED all is as it was then.");
        part("school", x -> x.school(1, 5));
        part("LEAVES", x -> x.set(1, 0, 50));
        part("LOSES", x -> x.set(1, 1, 50));
        part("LATEST", x -> x.set(1, 2, 50));
        part("dairy", x -> x.dairy(0, 5, 5));
        part("bid", x -> x.bid(0, 0, 5));
        part("bid none", x -> x.bid(0, 0, -1));
        part("bid for another", x -> x.bid(0, 3, 5));
        part("COLD", x -> x.month(0, 0, 50));
        part("HEAT", x -> x.month(11, 1, 50));
        part("COWS", x -> x.month(5, 2, 50));
        part("heads", x -> Due.heads(x, 2, 5, 5));
        part("act", x -> Due.act(x, "e:1=2", -1, 9));
        part("strike", x -> x.strike(1, 20));
        part("look", x -> x.look(0, 0, 99));
        part("go", x -> x.go(1));
    }

    private static void part(String what, Change change) {
        MilkDesk x = desk();
        x.image();
        String was = Told.world(x);
        change.on(x);
        due.holds(what + " changes something", !Told.world(x).equals(was));
        due.is("restore", x.restore(), 9);
        due.holds(what + " is taken back", Told.world(x).equals(was));
        change.on(x);
        x.image();
        String then = Told.world(x);
        int day = x.count(3);
        x.go(7);
        due.is("restore", x.restore(), day);
        due.holds(what + " is in the next IMAGE", Told.world(x).equals(then));
    }

    private static MilkDesk full() {
        MilkDesk x = Due.withSchools(12);
        for (int k = 0; k < 5; k++) {
            Due.dairy(x, 9999, 9999, 900 - k);
        }
        for (int k = 0; k < 16; k++) {
            Due.heads(x, k % 3, 10 + k, 20 + k, 30, 40, 50, 60, 70, 80, 90, 100, 110, 120 + k);
            Due.act(x, "ero".charAt(k % 3) + ":c<" + k, -1, 20 + k);
        }
        Due.goTo(x, 390);
        for (int k = 0; k < 30; k++) {
            x.look(k % 12, 300 + k, k);
        }
        return x;
    }

    private static void fullAndEmpty() {
        due.sentence("THE IMAGE: all that there is, but SHELVES (and THE IMAGE); RESTORED all is as it was then.");
        MilkDesk x = new MilkDesk();
        String empty = Told.world(x);
        x.image();
        x.go(10);
        for (int k = 0; k < 12; k++) {
            x.school(1, 9999);
            x.set(k, 0, 50);
            x.set(k, 1, 50);
            x.set(k, 2, 50);
        }
        x.restore();
        due.holds("an empty IMAGE", Told.world(x).equals(empty));
        due.is("SCHOOLS come anew", x.school(2, 0), 0);
        due.is("LEAVES anew", x.set(0, 0, 0), 0);
        due.is("LOSES anew", x.set(0, 1, 0), 0);
        due.is("LATEST anew", x.set(0, 2, 0), 660);
        MilkDesk y = full();
        String was = Told.world(y);
        due.is("a full IMAGE", y.image(), 390);
        y.go(10);
        due.is("behind the last DAY there is none", y.go(1), -2);
        due.is("back from it", y.restore(), 390);
        due.holds("a full IMAGE", Told.world(y).equals(was));
        due.is("no room still: SCHOOLS", y.school(0, 0), -2);
        due.is("no room still: DAIRIES", y.dairy(0, 0, 1), -2);
        due.is("no room still: ACTS", Due.act(y, "e:1=1", -1, 390), -2);
        due.is("no room still: ROWS of HEADS", Due.heads(y, 0, 1), -2);
        due.is("no room still: LOOKS", y.look(0, 0, 0), -2);
    }

    private static void butShelves() {
        due.sentence("THE IMAGE: all that there is, but SHELVES (and THE IMAGE);");
        MilkDesk x = desk();
        x.row(0, 1, 3);
        x.keep(1, 1, 4, 44, 4);
        x.keep(2, 0, 0, 0, 0);
        x.image();
        x.put(0, 2, 77);
        x.keep(1, 1, 5, 55, 5);
        x.row(2, 0, 1);
        x.keep(6, 0, 0, 0, 0);
        String shelves = Told.shelves(x);
        x.restore();
        due.holds("SHELVES stay as they are", Told.shelves(x).equals(shelves));
        due.is("what was put in behind THE IMAGE", x.element(0, 2), 77);
        due.is("what was kept behind THE IMAGE", x.toss(1), 55);
        due.is("a ROW made behind THE IMAGE", x.element(2, 0), 0);
        due.is("nothing since THE IMAGE", x.put(6, 0, 0), -11);
    }

    private static void butTheImage() {
        due.sentence("THE IMAGE: all that there is, but SHELVES (and THE IMAGE);");
        MilkDesk x = new MilkDesk();
        x.image();
        x.go(5);
        x.image();
        x.go(5);
        due.is("the one taken last", x.restore(), 5);
        x.go(1);
        due.is("it stays", x.restore(), 5);
        due.is("RESTORED twice over", x.restore(), 5);
        MilkDesk other = new MilkDesk();
        due.is("another object has its own", other.restore(), -3);
    }

    private static void image() {
        due.sentence("THE IMAGE is taken: DAY.");
        MilkDesk x = new MilkDesk();
        due.is("on DAY 0", x.image(), 0);
        x.go(1);
        due.is("on DAY 1", x.image(), 1);
        Due.goTo(x, 400);
        due.is("on DAY 400", x.image(), 400);
        due.is("RESTORED to DAY 400", x.restore(), 400);
    }

    private static void restore() {
        due.sentence("THE IMAGE is RESTORED: DAY. -3: there is none.");
        MilkDesk x = new MilkDesk();
        due.is("none on a new object", x.restore(), -3);
        Due.goTo(x, 400);
        due.is("none on the last DAY", x.restore(), -3);
        due.is("DAY still", x.count(3), 400);
        x.image();
        due.is("DAY", x.restore(), 400);
        MilkDesk y = new MilkDesk();
        y.image();
        Due.goTo(y, 400);
        due.is("DAY 0", y.restore(), 0);
        due.is("DAY 0 is now", y.count(3), 0);
        due.is("sixty DAYS again", y.go(60), 60);
    }

    private static void count() {
        due.sentence("5 all BOTTLES of DAIRIES, 6 all GONE, 7 all BURST, 8 ROWS of HEADS; -1 for others.");
        MilkDesk x = new MilkDesk();
        for (int what = 0; what <= 8; what++) {
            due.is("count(" + what + ") of a new object", x.count(what), 0);
        }
        due.each("others", -1, x::count, -1, 9, 10, Integer.MIN_VALUE, Integer.MAX_VALUE);
        MilkDesk y = full();
        int[] want = {12, 5, 16, 390, 30, 5 * 9999, 0, 0, 16};
        for (int what = 0; what <= 8; what++) {
            due.is("count(" + what + ") of a full object", y.count(what), want[what]);
        }
    }

    private static void countEach() {
        due.sentence("0 SCHOOLS, 1 DAIRIES, 2 ACTS, 3 DAY, 4 LOOKS,");
        MilkDesk x = new MilkDesk();
        int[] want = new int[9];
        x.school(0, 0);
        want[0]++;
        counts("a SCHOOL", x, want);
        x.dairy(0, 100, 9999);
        want[1]++;
        want[5] += 100;
        counts("a DAIRY", x, want);
        x.bid(0, 0, 0);
        Due.heads(x, 0, 50);
        want[8]++;
        counts("HEADS", x, want);
        Due.act(x, "o:1=1", -1, 0);
        want[2]++;
        counts("an ACT", x, want);
        x.go(7);
        want[3] += 7;
        counts("DAYS", x, want);
        x.look(0, 0, 0);
        want[4]++;
        counts("a LOOK", x, want);
        x.set(0, 1, 10);
        x.month(0, 0, 20);
        x.go(1);
        want[3]++;
        // Of 50 burst 10, of 40 are gone 4.
        want[5] -= 14;
        want[6] += 4;
        want[7] += 10;
        counts("a DAY", x, want);
        x.strike(0, 8);
        counts("an ACT that is STRUCK is still one", x, want);
        x.school(0, 0);
        x.dairy(0, 9999, 1);
        Due.heads(x, 0, 0, 100);
        want[0]++;
        want[1]++;
        want[5] += 9999;
        want[8]++;
        counts("others", x, want);
        Due.goTo(x, 15);
        // Three days of 50, a Friday of 44 (8 burst, 3 of 36 are gone), a Monday of 33 for the other SCHOOL (6 burst).
        want[3] = 15;
        want[5] -= 3 * 14 + 8 + 3 + 6;
        want[6] += 3 * 4 + 3;
        want[7] += 3 * 10 + 8 + 6;
        counts("two SCHOOLS and DAIRIES", x, want);
    }

    private static void counts(String what, MilkDesk x, int[] want) {
        for (int k = 0; k <= 8; k++) {
            due.is("behind " + what + ", count(" + k + ")", x.count(k), want[k]);
        }
    }
}
