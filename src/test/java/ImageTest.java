/** Promises 28 to 30. */
public final class ImageTest {
    private static final Due due = new Due("ImageTest");

    public static void main(String[] args) {
        allIsAsItWas();
        shelvesStay();
        severalImages();
        toldAgainBehindARestore();
        counts();
        due.end();
    }

    private static MilkDesk desk() {
        MilkDesk x = Due.withSchools(2);
        Due.dairy(x, 1000, 500, 100);
        Due.bytes(x, 0, 60, 50);
        x.heads(0, 0);
        Due.act(x, "o:a=0", -1, 0);
        Due.act(x, "e:a=0", -1, 0);
        x.set(0, 0, 10);
        x.set(0, 1, 10);
        x.set(0, 2, 500);
        x.month(0, 0, 10);
        x.month(0, 1, 5);
        x.month(0, 2, 100);
        x.go(9);
        x.look(0, 8, 50);
        return x;
    }

    /** All that the calls tell without changing anything, but for what was told by set, bid, month, strike. */
    private static String told(MilkDesk x) {
        StringBuilder all = new StringBuilder();
        for (int what = 0; what <= 8; what++) {
            all.append(x.count(what)).append(' ');
        }
        for (int school = 0; school < 3; school++) {
            for (int what = 0; what <= 10; what++) {
                all.append(x.of(school, what)).append(' ');
            }
            for (int day = 0; day < 30; day += 7) {
                for (int age = 0; age < 3; age++) {
                    all.append(x.head(school, age, day, 400)).append(' ');
                    all.append(x.holds(0, school, age, day)).append(' ');
                    all.append(x.quarrel(0, school, age, day)).append(' ');
                    all.append(x.force(age, school, day)).append(' ');
                }
            }
            all.append(x.order(school)).append(' ');
        }
        for (int shire = 0; shire < 4; shire++) {
            all.append(x.won(shire)).append(' ').append(x.bottles(shire)).append(' ');
            all.append(x.byHowMuch(shire, 0)).append(' ');
        }
        return all.toString();
    }

    private static void change(MilkDesk x) {
        Due.bytes(x, 0, 7, 8, 9);
        x.heads(1, 0);
        x.heads(0, 0);
        Due.act(x, "e:a=1", 0, 9);
        x.strike(0, 10);
        x.set(0, 0, 90);
        x.set(0, 1, 90);
        x.set(0, 2, 900);
        x.set(1, 1, 90);
        x.month(0, 0, 90);
        x.month(0, 1, 90);
        x.month(0, 2, 90);
        x.bid(0, 0, 99);
        x.bid(0, 1, 99);
        x.school(1, 5);
        x.dairy(9, 9, 9);
        x.bid(1, 2, 9);
        x.go(8);
        x.look(1, 10, 3);
    }

    private static void allIsAsItWas() {
        MilkDesk x = desk();
        String was = told(x);
        due.is("image()", x.image(), 9);
        due.holds("an image changes nothing", told(x).equals(was));
        change(x);
        due.holds("all has changed", !told(x).equals(was));
        due.is("restore()", x.restore(), 9);
        due.holds("all is as it was", told(x).equals(was));
        due.is("LEAVES", x.set(0, 0, 10), 10);
        due.is("LOSES", x.set(0, 1, 10), 10);
        due.is("LATEST", x.set(0, 2, 500), 500);
        due.is("LOSES of another", x.set(1, 1, 0), 0);
        due.is("COLD", x.month(0, 0, 10), 10);
        due.is("HEAT", x.month(0, 1, 5), 5);
        due.is("COWS", x.month(0, 2, 100), 100);
        due.is("a bid", x.bid(0, 0, 100), 100);
        due.is("no bid", x.bid(0, 1, -1), -4);
        due.is("not struck", x.strike(0, 10), 1);
        change(x);
        due.is("restore() again", x.restore(), 9);
        due.holds("all is as it was again", told(x).equals(was));
        MilkDesk straight = desk();
        straight.go(5);
        x.go(5);
        due.holds("it goes on as it would have", told(x).equals(told(straight)));
        x.image();
        x.strike(1, 20);
        x.restore();
        due.is("struck behind the image", x.strike(1, 20), 1);
        x.image();
        x.restore();
        due.is("struck ahead of the image", x.strike(1, 20), -3);
    }

    private static void shelvesStay() {
        MilkDesk x = new MilkDesk();
        x.image();
        Due.bytes(x, 0, 5);
        x.keep(1, 1, 0, 7, 1);
        x.restore();
        due.is("a row", x.element(0, 0), 5);
        due.is("a crate", x.crate(1, 0, 0), 21);
    }

    private static void severalImages() {
        MilkDesk x = new MilkDesk();
        due.is("restore() without an image", x.restore(), -3);
        x.go(3);
        due.is("restore() without an image", x.restore(), -3);
        due.is("count(3)", x.count(3), 3);
        x.image();
        x.go(3);
        x.image();
        x.go(3);
        due.is("the later image", x.restore(), 6);
        x.go(3);
        due.is("it is kept", x.restore(), 6);
        x.image();
        x.go(1);
        due.is("an image behind a restore", x.restore(), 6);
    }

    private static void toldAgainBehindARestore() {
        MilkDesk x = Due.withSchools(1);
        x.image();
        x.school(1, 9999);
        x.set(1, 0, 50);
        x.set(1, 2, 50);
        Due.dairy(x, 500, 500, 100);
        Due.bytes(x, 0, 50, 50);
        x.heads(0, 0);
        Due.act(x, "e:a=1", -1, 0);
        x.go(9);
        x.restore();
        due.is("a school behind the restore", x.school(2, 0), 1);
        due.is("its ORDER so far", x.of(1, 0), 0);
        due.is("its LEAVES", x.set(1, 0, 0), 0);
        due.is("its LATEST", x.set(1, 2, 0), 660);
        due.is("its HEADS", x.head(1, 0, 7, 400), 0);
        due.is("a dairy behind the restore", x.dairy(0, 1, 1), 0);
        due.is("its bid", x.bid(0, 0, -1), -4);
        due.is("an act behind the restore", Due.act(x, "e:a=0", -1, 0), 0);
        due.is("what it says", x.holds(0, 0, 0, 0), 1);
        x.row(0, 0, 0);
        due.is("heads behind the restore", x.heads(0, 0), 7);
        due.is("MISSING", x.head(0, 0, 7, 400), 0);
        x.restore();
        due.is("acts at the image", x.count(2), 0);
        Due.act(x, "e:a=0", -1, 0);
        x.image();
        Due.act(x, "e:a=1", -1, 0);
        x.restore();
        Due.act(x, "e:a=2", -1, 0);
        x.restore();
        due.is("the act of the image", x.holds(0, 0, 0, 0), 1);
        due.is("alone", x.quarrel(0, 0, 0, 0), -4);
    }

    private static void counts() {
        MilkDesk x = desk();
        int[] want = {2, 1, 2, 9, 1, 1000 - 20 - 10, 10, 20, 1};
        for (int what = 0; what < want.length; what++) {
            due.is("count(" + what + ")", x.count(what), want[what]);
        }
        due.each("count(n)", -1, x::count, -1, 9, Integer.MAX_VALUE, Integer.MIN_VALUE);
        x.dairy(0, 77, 1);
        due.is("all BOTTLES", x.count(5), 970 + 77);
    }
}
