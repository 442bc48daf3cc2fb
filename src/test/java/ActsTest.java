/** Promises 11 to 16. */
public final class ActsTest {
    private static final Due due = new Due("ActsTest");

    public static void main(String[] args) {
        faults();
        faultRefusals();
        fields();
        signs();
        unless();
        agesOfPurposes();
        told();
        struck();
        inForce();
        quarrels();
        caseRefusals();
        due.end();
    }

    private static void fault(String text, int want) {
        MilkDesk x = new MilkDesk();
        Due.text(x, 0, text);
        due.is("fault of " + text, x.fault(0), want);
        due.is("act of " + text, x.act(0, -1, 0), want == -4 ? 0 : -100 - want);
        due.is("count(2) behind " + text, x.count(2), want == -4 ? 1 : 0);
    }

    private static void faults() {
        String[] acts = {"e:a=0", "r:1<2", "o:9999>0", "e:a=0|a=1", "e:a=0&s=1", "e:!a=0", "e:!!!a=0", "e:(a=0)",
            "e:((((((((a=0))))))))", "e:!(!(a=0|!s=1)&m<3)", "e:a+1-2+s=d-w+h-n+x-y+c", "e:a=0ua=1", "e:a=0u!(a=1)|s=0&m=1",
            "e:0=0", "e:10=10", "e:a=0|a=1|a=2", "e:a=0&a=1&a=2", "e:(a=0)&(a=1)|(a=2)", "e:(a=0)|((((((((a=1))))))))"};
        for (String act : acts) {
            fault(act, -4);
            for (int k = 0; k < act.length() && !isActIfCut(act, k); k++) {
                // A text that ends too early has its FAULT at its size.
                fault(act.substring(0, k), k);
            }
            fault(act + "#", act.length());
            fault(act + (char) 128, act.length());
        }
        fault("", 0);
        fault("a", 0);
        fault("u:a=0", 0);
        fault("E:a=0", 0);
        fault("ea=0", 1);
        fault("e;a=0", 1);
        fault("e::", 2);
        fault("e: a=0", 2);
        fault("e:&", 2);
        fault("e:)", 2);
        fault("e:-1=0", 2);
        fault("e:+", 2);
        fault("e:a", 3);
        fault("e:a&", 3);
        fault("e:a)", 3);
        fault("e:(a)", 4);
        fault("e:(a+1)=1", 6);
        fault("e:aa=0", 3);
        fault("e:a1=0", 3);
        fault("e:1a=0", 3);
        fault("e:a==0", 4);
        fault("e:a<=0", 4);
        fault("e:a=0=0", 5);
        fault("e:a=!0", 4);
        fault("e:a=(0)", 4);
        fault("e:a=0!", 5);
        fault("e:a=0(", 5);
        fault("e:a=0)", 5);
        fault("e:(a=0", 6);
        fault("e:(a=0u", 6);
        fault("e:(a=0))", 7);
        fault("e:a=0u", 6);
        fault("e:a=0uu", 6);
        fault("e:a=0ua=1ua=2", 9);
        fault("e:a=0||a=1", 6);
        fault("e:a=0|&", 6);
        fault("e:a=0&|", 6);
        fault("e:00=0", 3);
        fault("e:01=0", 3);
        fault("e:a=00", 5);
        fault("e:12345=0", 6);
        fault("e:a=12345", 8);
        fault("e:a=1234", -4);
        fault("e:a+=1", 4);
        fault("e:a-+1=1", 4);
        fault("e:z=0", 2);
        fault("e:e=0", 2);
        fault("e:o=0", 2);
        fault("e:(((((((((a=0)))))))))", 10);
        fault("e:!(!(!(!(!(!(!(!(!(a=0)))))))))", 19);
        fault("e:a=0u(((((((((a=0)))))))))", 14);
        fault("e:((((((((a=0))))))))|((((((((a=0))))))))", -4);
        fault("e:" + "!".repeat(75) + "a=0", -4);
        fault("e:" + "!".repeat(78), 80);
        fault("e:a=" + "1+".repeat(37) + "12", -4);
        fault("e:a=" + "1+".repeat(38), 80);
        fault("e:" + "(".repeat(78), 10);
    }

    /** Whether these first k signs of a text above are a whole act themselves. */
    private static boolean isActIfCut(String act, int k) {
        MilkDesk x = new MilkDesk();
        Due.text(x, 0, act.substring(0, k));
        return x.fault(0) == -4;
    }

    private static void faultRefusals() {
        MilkDesk x = new MilkDesk();
        due.each("fault(n)", -1, x::fault, -1, 8, Integer.MIN_VALUE);
        due.is("nothing held", x.fault(0), -11);
        x.keep(0, 1, 0, 0, 0);
        due.is("a crate", x.fault(0), -12);
        x.row(0, 1, 5);
        due.is("shorts", x.fault(0), -12);
        x.row(0, 2, 5);
        due.is("ints", x.fault(0), -12);
        x.row(0, 0, 5);
        due.is("bytes", x.fault(0), 0);
    }

    private static void field(char field, int school, int age, int day, int want) {
        MilkDesk x = new MilkDesk();
        for (int k = 0; k < 12; k++) {
            x.school(k % 4, 1000 + 200 * k + 3 * k);
        }
        Due.fill(x, 0, 2, 5, 6, 7, 8, 9, 10, 11, 12, 13, 14, 15, 16);
        for (int a = 0; a < 3; a++) {
            x.heads(a, 0);
        }
        for (int m = 0; m < 12; m++) {
            x.month(m, 1, 10 + m);
        }
        Due.act(x, "e:" + field + "=" + want, -1, 0);
        due.is("e:" + field + "=" + want, x.holds(0, school, age, day), 1);
        due.is("a number more", Due.act(x, "r:" + field + "=" + (want + 1), -1, 0), 1);
        due.is("r:" + field + "=" + (want + 1), x.holds(1, school, age, day), 0);
    }

    private static void fields() {
        field('a', 3, 2, 50, 2);
        field('s', 3, 2, 50, 3);
        field('s', 4, 2, 50, 0);
        field('m', 3, 2, 29, 0);
        field('m', 3, 2, 30, 1);
        field('m', 3, 2, 359, 11);
        field('m', 3, 2, 360, 0);
        field('m', 3, 2, 400, 1);
        field('d', 3, 2, 50, 1);
        field('d', 3, 2, 6, 6);
        field('d', 3, 2, 7, 0);
        field('w', 3, 2, 50, 7);
        field('w', 3, 2, 400, 57);
        field('h', 3, 2, 50, 11);
        field('h', 3, 2, 365, 10);
        field('n', 3, 2, 50, 24);
        field('n', 0, 0, 7, 15);
        field('n', 0, 0, 6, 0);
        field('x', 3, 2, 50, 16);
        field('y', 3, 2, 50, 9);
        field('c', 11, 2, 50, 11);
        field('c', 0, 2, 50, 0);
    }

    /** With a = 1, s = 0, c = 0, d = 4, w = 1 (school 0, age 1, day 11). */
    private static void sign(String test, boolean want) {
        MilkDesk x = Due.withSchools(1);
        Due.act(x, "e:" + test, -1, 0);
        due.is(test, x.holds(0, 0, 1, 11), want ? 1 : 0);
        Due.act(x, "e:!(" + test + ")", -1, 0);
        due.is("not " + test, x.holds(0, 0, 1, 11), want ? 0 : 1);
    }

    private static void signs() {
        sign("a<1", false);
        sign("a<2", true);
        sign("a>1", false);
        sign("a>0", true);
        sign("a=1", true);
        sign("d-w-a=2", true);
        sign("d-w+a=4", true);
        sign("5-d+1=2", true);
        sign("a-d<0", true);
        sign("a-d=0-3", true);
        sign("0=0|0=1&0=1", true);
        sign("0=1&0=1|0=0", true);
        sign("0=1&0=0|0=1", false);
        sign("(0=0|0=1)&0=1", false);
        sign("0=1&(0=1|0=0)", false);
        sign("!0=1&0=1", false);
        sign("!0=0|0=0", true);
        sign("!(0=0|0=0)", false);
        sign("!!0=0", true);
        sign("!!!0=0", false);
        sign("0=0&0=0&0=1", false);
        sign("0=1|0=1|0=0", true);
        sign("9999+9999+9999=9999+9999+9999", true);
        sign("9999+9999<9999+9999+1", true);
        sign("(((((((0=0)))))))", true);
    }

    private static void unless() {
        for (int first = 0; first < 2; first++) {
            for (int second = 0; second < 2; second++) {
                MilkDesk x = Due.withSchools(1);
                Due.act(x, "r:" + first + "=1u" + second + "=1", -1, 0);
                due.is("first " + first + ", unless " + second, x.holds(1, 0, 0, 0), first == 1 && second == 0 ? 1 : 0);
                x = Due.withSchools(1);
                Due.act(x, "r:0=1|" + first + "=1u0=1|" + second + "=1", -1, 0);
                due.is("of ors, " + first + ", " + second, x.holds(1, 0, 0, 0), first == 1 && second == 0 ? 1 : 0);
            }
        }
    }

    private static void agesOfPurposes() {
        MilkDesk x = Due.withSchools(1);
        due.is("e without an act", x.holds(0, 0, 2, 0), 1);
        due.is("r without an act", x.holds(1, 0, 2, 0), 0);
        due.is("o without an act", x.holds(2, 0, 2, 0), 0);
        Due.act(x, "e:a=2", -1, 0);
        Due.act(x, "r:a=0", -1, 0);
        Due.act(x, "o:a=0", -1, 0);
        due.is("e of age 2", x.holds(0, 0, 2, 0), 1);
        due.is("e of age 0", x.holds(0, 0, 0, 0), 0);
        due.is("r of age 2 is of 0", x.holds(1, 0, 2, 0), 1);
        due.is("o of age 1 is of 0", x.holds(2, 0, 1, 0), 1);
        Due.act(x, "r:a=1", -1, 0);
        due.is("r quarrels of age 1 as of 0", x.quarrel(1, 0, 1, 0), 103);
    }

    private static void told() {
        MilkDesk x = Due.withSchools(1);
        x.go(5);
        Due.text(x, 0, "e:a=0");
        due.each("act(n, 0, 5)", -1, n -> x.act(n, 0, 5), -1, 8);
        due.each("act(0, n, 5)", -1, n -> x.act(0, n, 5), -2, 4);
        due.each("act(0, 0, n)", -1, n -> x.act(0, 0, n), 4, 401, -1);
        due.is("nothing held", x.act(1, 0, 5), -11);
        x.keep(1, 1, 0, 0, 0);
        due.is("a crate", x.act(1, 0, 5), -12);
        x.row(1, 2, 5);
        due.is("ints", x.act(1, 0, 5), -12);
        due.is("count(2)", x.count(2), 0);
        for (int k = 0; k < 16; k++) {
            due.is("act " + k, x.act(0, k % 5 - 1, k == 0 ? 400 : 5), k);
        }
        due.is("a 17th", x.act(0, 0, 5), -2);
        due.is("a 17th of ints", x.act(1, 0, 5), -2);
        due.is("a 17th of nothing", x.act(2, 0, 5), -2);
        due.is("a 17th in the past", x.act(0, 0, 4), -1);
        due.is("count(2)", x.count(2), 16);
        MilkDesk y = Due.withSchools(1);
        Due.act(y, "e:a=0", -1, 0);
        Due.text(y, 7, "e:a=1");
        due.is("a text that changed since", y.holds(0, 0, 0, 0), 1);
    }

    private static void struck() {
        MilkDesk x = Due.withSchools(1);
        x.go(5);
        Due.act(x, "e:a=9", -1, 5);
        Due.act(x, "r:a=0", -1, 7);
        due.each("strike(n, 5)", -1, n -> x.strike(n, 5), -1, 2, 16);
        due.each("strike(0, n)", -1, n -> x.strike(0, n), 4, 401, -1);
        due.is("in force on 400", x.force(0, 0, 400), 0);
        due.is("strike(0, 400)", x.strike(0, 400), 1);
        due.is("in force on 399", x.force(0, 0, 399), 0);
        due.is("struck from 400 on", x.force(0, 0, 400), -4);
        due.is("it was told so", x.strike(0, 5), -3);
        due.is("it was told so, but in the past", x.strike(0, 4), -1);
        due.is("in force still", x.force(0, 0, 399), 0);
        due.is("struck ahead of its day", x.strike(1, 6), 1);
        due.is("never in force", x.force(1, 0, 7), -4);
        due.is("holds no more", x.holds(1, 0, 0, 7), 0);
        due.is("count(2)", x.count(2), 2);
    }

    private static void inForce() {
        MilkDesk x = new MilkDesk();
        x.school(0, 0);
        x.school(1, 0);
        Due.act(x, "e:a=0", -1, 10);
        Due.act(x, "e:a=1", 0, 20);
        Due.act(x, "e:a=2", 1, 5);
        Due.act(x, "r:a=0", -1, 15);
        due.is("ahead of all", x.force(0, 0, 9), -4);
        due.is("for all", x.force(0, 0, 10), 0);
        due.is("not another shire's", x.force(0, 0, 5), -4);
        due.is("its shire's", x.force(0, 1, 5), 2);
        due.is("the latest for it", x.force(0, 1, 10), 0);
        due.is("the latest for it on 20", x.force(0, 0, 20), 1);
        due.is("not that of another shire", x.force(0, 1, 20), 0);
        due.is("another purpose", x.force(1, 0, 20), 3);
        due.is("another purpose ahead", x.force(1, 0, 14), -4);
        due.is("a third purpose", x.force(2, 0, 400), -4);
        Due.act(x, "e:a=0", -1, 20);
        due.is("the one told last", x.force(0, 0, 20), 4);
        Due.act(x, "e:a=0", -1, 19);
        due.is("told last, but not the latest", x.force(0, 0, 20), 4);
        due.is("holds by the one in force", x.holds(0, 0, 1, 20), 0);
        x.strike(4, 21);
        due.is("struck on 21", x.force(0, 0, 21), 1);
        due.is("not yet", x.force(0, 0, 20), 4);
        due.is("holds by the next", x.holds(0, 0, 1, 21), 1);
    }

    private static void quarrels() {
        MilkDesk x = new MilkDesk();
        x.school(0, 0);
        x.school(1, 0);
        due.is("none told", x.quarrel(0, 0, 0, 0), -4);
        Due.act(x, "e:a=1", 1, 0);
        Due.act(x, "e:a=0", -1, 0);
        due.is("one alone", x.quarrel(0, 0, 0, 0), -4);
        Due.act(x, "e:a=0", -1, 0);
        due.is("two that agree", x.quarrel(0, 0, 0, 0), -4);
        Due.act(x, "r:a=1", -1, 0);
        Due.act(x, "e:a=1", -1, 10);
        Due.act(x, "e:a=1", -1, 0);
        due.is("the least of each", x.quarrel(0, 0, 0, 0), 105);
        due.is("the other way round", x.quarrel(0, 0, 1, 0), 501);
        due.is("of neither age", x.quarrel(0, 0, 2, 0), -4);
        due.is("begun", x.quarrel(0, 0, 0, 10), 104);
        due.is("of the other shire", x.quarrel(0, 1, 0, 0), 100);
        x.strike(1, 3);
        due.is("struck", x.quarrel(0, 0, 0, 3), 205);
        due.is("not yet struck", x.quarrel(0, 0, 0, 2), 105);
        MilkDesk y = Due.withSchools(1);
        Due.act(y, "o:c=0", -1, 0);
        Due.act(y, "o:c=1", -1, 0);
        due.is("the first one holds", y.quarrel(2, 0, 0, 0), 1);
    }

    private static void caseRefusals() {
        MilkDesk x = Due.withSchools(2);
        due.each("force(n, 0, 0)", -1, n -> x.force(n, 0, 0), -1, 3);
        due.each("force(0, n, 0)", -1, n -> x.force(0, n, 0), -1, 2);
        due.each("force(0, 0, n)", -1, n -> x.force(0, 0, n), -1, 401);
        due.each("holds(n, 0, 0, 0)", -1, n -> x.holds(n, 0, 0, 0), -1, 3);
        due.each("holds(0, n, 0, 0)", -1, n -> x.holds(0, n, 0, 0), -1, 2);
        due.each("holds(0, 0, n, 0)", -1, n -> x.holds(0, 0, n, 0), -1, 3);
        due.each("holds(0, 0, 0, n)", -1, n -> x.holds(0, 0, 0, n), -1, 401);
        due.each("quarrel(n, 0, 0, 0)", -1, n -> x.quarrel(n, 0, 0, 0), -1, 3);
        due.each("quarrel(0, n, 0, 0)", -1, n -> x.quarrel(0, n, 0, 0), -1, 2);
        due.each("quarrel(0, 0, n, 0)", -1, n -> x.quarrel(0, 0, n, 0), -1, 3);
        due.each("quarrel(0, 0, 0, n)", -1, n -> x.quarrel(0, 0, 0, n), -1, 401);
    }
}
