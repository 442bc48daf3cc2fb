/** Promises 9 and 10. */
public final class HeadsTest {
    private static final Due due = new Due("HeadsTest");

    public static void main(String[] args) {
        fromWhichDay();
        held();
        missing();
        missingBehindAnotherAge();
        asKnown();
        schoolsThatComeLater();
        refusals();
        due.end();
    }

    private static void fromWhichDay() {
        int[] from = {7, 7, 7, 7, 14, 14, 14, 14, 14, 14, 14, 21};
        MilkDesk x = Due.withSchools(1);
        for (int day = 0; day < from.length; day++) {
            Due.bytes(x, 0, day);
            due.is("heads(1, 0) on " + day, x.heads(1, 0), from[day]);
            due.is("count(8)", x.count(8), day + 1);
            x.go(1);
        }
        due.is("the Sunday ahead", x.head(0, 1, 6, 400), 0);
        due.is("the latest told by Thursday", x.head(0, 1, 7, 400), 3);
        due.is("till others count", x.head(0, 1, 13, 400), 3);
        due.is("the next Monday", x.head(0, 1, 14, 400), 10);
        due.is("the last day", x.head(0, 1, 400, 400), 11);
        due.is("another age", x.head(0, 0, 400, 400), 0);
        MilkDesk late = Due.withSchools(1);
        for (int k = 0; k < 7; k++) {
            late.go(k < 6 ? 60 : 40);
        }
        late.row(0, 0, 1);
        due.is("heads told on day 400", late.heads(0, 0), 406);
        due.is("don't count by then", late.head(0, 0, 400, 400), 0);
    }

    private static void held() {
        MilkDesk x = Due.withSchools(6);
        Due.fill(x, 0, 2, -1, 0, 200, 201, Integer.MAX_VALUE, Integer.MIN_VALUE + 1);
        x.heads(2, 0);
        int[] want = {0, 0, 200, 200, 200, 0};
        for (int s = 0; s < 6; s++) {
            due.is("ints held, school " + s, x.head(s, 2, 7, 0), want[s]);
        }
        Due.fill(x, 0, 1, -1, 32767, -32767, 199, 201, 5);
        x.heads(2, 0);
        int[] shorts = {0, 200, 0, 199, 200, 5};
        for (int s = 0; s < 6; s++) {
            due.is("shorts held, school " + s, x.head(s, 2, 7, 0), shorts[s]);
        }
        Due.fill(x, 0, 0, -1, 127, -127, 199, 201, 5);
        x.heads(2, 0);
        int[] bytes = {0, 127, 0, 0, 0, 5};
        for (int s = 0; s < 6; s++) {
            due.is("bytes held, school " + s, x.head(s, 2, 7, 0), bytes[s]);
        }
        x.put(0, 5, 77);
        due.is("a later put into the row", x.head(5, 2, 7, 0), 5);
    }

    private static void missing() {
        for (int sort = 0; sort < 3; sort++) {
            int least = sort == 0 ? -128 : sort == 1 ? -32768 : Integer.MIN_VALUE;
            MilkDesk x = Due.withSchools(3);
            Due.fill(x, 0, sort, least, 20, 30);
            x.heads(0, 0);
            Due.fill(x, 1, sort, 90, 90, 90);
            x.heads(1, 1);
            Due.fill(x, 0, sort, 11, least);
            x.heads(0, 0);
            due.is("told, sort " + sort, x.head(0, 0, 7, 0), 11);
            due.is("the least number, sort " + sort, x.head(1, 0, 7, 0), 20);
            due.is("behind the end, sort " + sort, x.head(2, 0, 7, 0), 30);
            x.row(0, sort, 0);
            x.heads(0, 0);
            due.is("two rows ahead, sort " + sort, x.head(2, 0, 7, 0), 30);
            due.is("one row ahead, sort " + sort, x.head(0, 0, 7, 0), 11);
            due.is("another age's row is none, sort " + sort, x.head(0, 1, 7, 0), 90);
        }
        MilkDesk y = Due.withSchools(1);
        Due.fill(y, 0, 1, -128);
        y.heads(0, 0);
        due.is("-128 is no short's least", y.head(0, 0, 7, 0), 0);
        Due.fill(y, 0, 0, -128);
        y.heads(2, 0);
        due.is("without one ahead", y.head(0, 2, 7, 0), 0);
        Due.bytes(y, 0, 33);
        y.heads(0, 0);
        Due.bytes(y, 0, 50);
        y.heads(1, 0);
        Due.fill(y, 0, 2, -32768);
        y.heads(1, 0);
        due.is("-32768 is no int's least", y.head(0, 1, 7, 0), 0);
    }

    private static void missingBehindAnotherAge() {
        MilkDesk x = Due.withSchools(1);
        Due.bytes(x, 0, 50);
        x.heads(0, 0);
        x.row(0, 0, 0);
        x.heads(1, 0);
        due.is("the row ahead is another age's", x.head(0, 1, 7, 0), 0);
    }

    private static void asKnown() {
        MilkDesk x = Due.withSchools(1);
        Due.bytes(x, 0, 40);
        x.heads(0, 0);
        x.go(2);
        Due.bytes(x, 0, 50);
        x.heads(0, 0);
        x.go(3);
        Due.bytes(x, 0, 60);
        due.is("heads on Saturday", x.heads(0, 0), 14);
        due.is("known on 0", x.head(0, 0, 7, 0), 40);
        due.is("known on 1", x.head(0, 0, 7, 1), 40);
        due.is("known on 2", x.head(0, 0, 7, 2), 50);
        due.is("known on 4 of 14", x.head(0, 0, 14, 4), 50);
        due.is("known on 5 of 14", x.head(0, 0, 14, 5), 60);
        due.is("known on 5 of 13", x.head(0, 0, 13, 5), 50);
        due.is("known on 0 of 400", x.head(0, 0, 400, 0), 40);
        due.is("known on 400 of 0", x.head(0, 0, 0, 400), 0);
    }

    private static void schoolsThatComeLater() {
        MilkDesk x = Due.withSchools(1);
        Due.bytes(x, 0, 1, 2, 3);
        x.heads(0, 0);
        due.is("no school yet", x.head(1, 0, 7, 0), -1);
        x.school(0, 0);
        due.is("it has come", x.head(1, 0, 7, 0), 2);
        Due.bytes(x, 0, 9, 9, 9, 9, 9, 9, 9, 9, 9, 9, 9, 9, 9, 9);
        due.is("a row longer than the schools", x.heads(0, 0), 7);
        due.is("its element", x.head(1, 0, 7, 0), 9);
    }

    private static void refusals() {
        MilkDesk x = Due.withSchools(1);
        due.each("heads(n, 0)", -1, n -> x.heads(n, 0), -1, 3);
        due.each("heads(0, n)", -1, n -> x.heads(0, n), -1, 8);
        due.is("nothing held", x.heads(0, 0), -11);
        x.keep(0, 1, 0, 1, 0);
        due.is("a crate", x.heads(0, 0), -12);
        due.is("count(8)", x.count(8), 0);
        due.each("head(n, 0, 0, 0)", -1, n -> x.head(n, 0, 0, 0), -1, 1, 12);
        due.each("head(0, n, 0, 0)", -1, n -> x.head(0, n, 0, 0), -1, 3);
        due.each("head(0, 0, n, 0)", -1, n -> x.head(0, 0, n, 0), -1, 401);
        due.each("head(0, 0, 0, n)", -1, n -> x.head(0, 0, 0, n), -1, 401);
        Due.bytes(x, 1, 3);
        for (int k = 0; k < 16; k++) {
            due.is("row " + k, x.heads(k % 3, 1), 7);
        }
        due.is("a 17th", x.heads(0, 1), -2);
        due.is("a 17th, a crate", x.heads(0, 0), -2);
        due.is("a 17th, nothing held", x.heads(0, 3), -2);
        due.is("a 17th of no age", x.heads(3, 1), -1);
        due.is("count(8)", x.count(8), 16);
    }
}
