/** The sentences that name a bound: acts, from their signs to their quarrels. Promises 11 to 16. */
public final class BoundsOfActsTest {
    private static final Due due = new Due("BoundsOfActsTest");
    private static final String FIELDS = "asmdwhnxyc";
    private static final String DIGITS = "0123456789";
    private static final String EIGHT = "((((((((";

    public static void main(String[] args) {
        purposes();
        tests();
        sums();
        numbers();
        fields();
        eightDeep();
        faults();
        rowsOfEighty();
        unless();
        sixteenActs();
        shiresOfActs();
        daysOfActs();
        inForce();
        withoutOne();
        agesOfPurposes();
        quarrels();
        fault();
        act();
        strike();
        force();
        holds();
        quarrel();
        due.end();
    }

    /**
     * Behind a beginning of an ACT each byte is tried: those that go on leave a text that ends too early (its FAULT is
     * its size), those that end one leave an ACT, all others are the FAULT themselves.
     */
    private static void next(String ahead, String goOn, String end) {
        for (int b = -128; b <= 127; b++) {
            int[] text = new int[ahead.length() + 1];
            for (int i = 0; i < ahead.length(); i++) {
                text[i] = ahead.charAt(i);
            }
            text[ahead.length()] = b;
            MilkDesk x = new MilkDesk();
            Due.bytes(x, 0, text);
            boolean goesOn = b > 0 && goOn.indexOf((char) b) >= 0;
            boolean ends = b > 0 && end.indexOf((char) b) >= 0;
            int want = ends ? -4 : goesOn ? ahead.length() + 1 : ahead.length();
            due.is("fault of " + ahead + " and byte " + b, x.fault(0), want);
            due.is("act of " + ahead + " and byte " + b, x.act(0, -1, 0), ends ? 0 : -100 - want);
        }
    }

    private static void purposes() {
        due.sentence("PURPOSE : OR, and perhaps u OR behind (UNLESS).");
        next("", "ero", "");
        next("e", ":", "");
        next("r", ":", "");
        next("o", ":", "");
        next("e:", "!(" + DIGITS + FIELDS, "");
        next("r:1=1u", "!(" + DIGITS + FIELDS, "");
        next("r:1=1ua=", "", DIGITS + FIELDS);
        next("r:1=1ua=a", "+-&|", "");
        next("r:(1=1)", "&|u", "");
        next("r:(1=1)u(1=1)", "&|", "");
        due.sentence("PURPOSES: e (an AGE may have it), r (what is HOT is refused), o (what is gone is owed for).");
        String signs = "ero";
        for (int k = 0; k < 3; k++) {
            MilkDesk x = Due.withSchools(1);
            Due.act(x, signs.charAt(k) + ":1=1", -1, 0);
            for (int purpose = 0; purpose < 3; purpose++) {
                due.is(signs.charAt(k) + " in force for " + purpose, x.force(purpose, 0, 0), purpose == k ? 0 : -4);
            }
        }
    }

    private static void holds(String test, boolean want) {
        MilkDesk x = Due.withSchools(1);
        Due.act(x, "e:" + test, -1, 0);
        due.is(test, x.holds(0, 0, 1, 11), want ? 1 : 0);
    }

    private static void tests() {
        due.sentence("OR: AND, or AND | OR. AND: TEST, or TEST & AND. TEST: ! TEST; ( OR ); SUM, one of < > =, SUM.");
        next("e:a=1|", "!(" + DIGITS + FIELDS, "");
        next("e:a=1&", "!(" + DIGITS + FIELDS, "");
        next("e:!", "!(" + DIGITS + FIELDS, "");
        next("e:(", "!(" + DIGITS + FIELDS, "");
        next("e:a", "+-<>=", "");
        next("e:(a", "+-<>=", "");
        next("e:a<", "", DIGITS + FIELDS);
        next("e:a>", "", DIGITS + FIELDS);
        next("e:(a=", DIGITS + FIELDS, "");
        next("e:(a=a", "+-&|", ")");
        next("e:((a=a)", "&|", ")");
        holds("1<1", false);
        holds("1>1", false);
        holds("1=1", true);
        holds("1<2", true);
        holds("1>2", false);
        holds("1=2", false);
        holds("2<1", false);
        holds("2>1", true);
        holds("!1=1", false);
        holds("!!1=1", true);
        holds("!1=1|1=1", true);
        holds("!(1=1|1=1)", false);
        holds("1=1|1=1&1=2", true);
        holds("1=2&1=1|1=1", true);
        holds("1=2&(1=1|1=1)", false);
        holds("(1=1|1=1)&1=2", false);
    }

    private static void sums() {
        due.sentence("SUM: ATOM, and any of + ATOM, - ATOM behind it, from the left.");
        next("e:a+", DIGITS + FIELDS, "");
        next("e:a-", DIGITS + FIELDS, "");
        next("e:a+a", "+-<>=", "");
        next("e:a=a+", "", DIGITS + FIELDS);
        next("e:a=a-a", "+-&|u", "");
        holds("5-2-1=2", true);
        holds("5-2+1=4", true);
        holds("5+2-1-6=0", true);
        holds("2=5-2-1", true);
        holds("1-2<0", true);
        holds("1-2=0-1", true);
        holds("0-9999-9999<0", true);
        holds("9999+9999+9999+9999>9999+9999+9999", true);
    }

    private static void numbers() {
        due.sentence("ATOM: a NUMBER of 1 to 4 digits without 0 ahead of others;");
        next("e:1", "+-<>=" + DIGITS, "");
        next("e:12", "+-<>=" + DIGITS, "");
        next("e:123", "+-<>=" + DIGITS, "");
        next("e:1234", "+-<>=", "");
        next("e:9999", "+-<>=", "");
        next("e:0", "+-<>=", "");
        next("e:10", "+-<>=" + DIGITS, "");
        next("e:1000", "+-<>=", "");
        next("e:a=0", "+-&|u", "");
        next("e:a=1", "+-&|u", DIGITS);
        next("e:a=900", "+-&|u", DIGITS);
        next("e:a=9000", "+-&|u", "");
        holds("0=1-1", true);
        holds("9=10-1", true);
        holds("99=100-1", true);
        holds("999=1000-1", true);
        holds("9999=9000+900+90+9", true);
        holds("9999>9998", true);
    }

    /** A desk with two schools, its heads and its heats; asked of school 1. */
    private static void field(char field, int age, int day, int want) {
        MilkDesk x = new MilkDesk();
        x.school(0, 0);
        x.school(3, 9908);
        for (int k = 0; k < 3; k++) {
            Due.heads(x, k, 1, 200);
        }
        x.month(11, 1, 99);
        Due.act(x, "e:" + field + "=" + want, -1, 0);
        Due.act(x, "r:" + field + "=" + want, -1, 0);
        Due.act(x, "o:" + field + "=" + want, -1, 0);
        for (int purpose = 0; purpose < 3; purpose++) {
            boolean ageOfOthers = field == 'a' && purpose > 0;
            due.is(field + "=" + want + " for " + purpose, x.holds(purpose, 1, age, day), ageOfOthers && want != 0 ? 0 : 1);
        }
    }

    private static void fields() {
        due.sentence("a FIELD: a AGE (else 0), s SHIRE, m MONTH, d DAY modulo 7, w WEEK, h HEAT of the MONTH,");
        field('a', 0, 0, 0);
        field('a', 2, 0, 2);
        field('s', 0, 0, 3);
        field('m', 0, 359, 11);
        field('m', 0, 360, 0);
        field('d', 0, 6, 6);
        field('d', 0, 7, 0);
        field('d', 0, 400, 1);
        field('w', 0, 6, 0);
        field('w', 0, 400, 57);
        field('h', 0, 329, 0);
        field('h', 0, 330, 99);
        field('h', 0, 359, 99);
        field('h', 0, 360, 0);
        due.sentence("n HEADS told of the SCHOOL (all AGES), x, y its PLACE, c its number.");
        field('n', 0, 6, 0);
        field('n', 0, 7, 600);
        field('n', 2, 400, 600);
        field('x', 0, 0, 99);
        field('y', 0, 0, 8);
        field('c', 0, 0, 1);
        MilkDesk x = Due.withSchools(12);
        Due.act(x, "e:c=11", -1, 0);
        due.is("the last SCHOOL", x.holds(0, 11, 0, 0), 1);
        due.is("the one ahead of it", x.holds(0, 10, 0, 0), 0);
    }

    private static void eightDeep() {
        due.sentence("( at most 8 deep.");
        next("e:" + EIGHT, "!" + DIGITS + FIELDS, "");
        next("e:" + EIGHT.substring(1), "(!" + DIGITS + FIELDS, "");
        next("e:" + EIGHT + "a=a", "+-&|)", "");
        next("e:" + EIGHT + "a=a)", "&|)", "");
        next("e:" + EIGHT + "a=a)&", "(!" + DIGITS + FIELDS, "");
        next("e:" + EIGHT + "!", "!" + DIGITS + FIELDS, "");
        next("e:a=au" + EIGHT, "!" + DIGITS + FIELDS, "");
        next("e:(a=a)|" + EIGHT.substring(1), "(!" + DIGITS + FIELDS, "");
        next("e:" + EIGHT + "a=a)))))))", "&|", ")");
        next("e:!(!(!(!(!(!(!(!(", "!" + DIGITS + FIELDS, "");
        holds(EIGHT + "1=1))))))))", true);
        holds(EIGHT + "1=2))))))))", false);
        holds("!(!(!(!(!(!(!(!(1=1))))))))", true);
        holds("!(!(!(!(!(!(!(!1=1)))))))", true);
        holds("!(!(!(!(!(!(!(1=1)))))))", false);
        holds(EIGHT + "1=2))))))))|" + EIGHT + "1=1))))))))", true);
    }

    private static void fault(String text, int want) {
        MilkDesk x = new MilkDesk();
        Due.text(x, 0, text);
        due.is("fault of " + text, x.fault(0), want);
        due.is("act of " + text, x.act(0, -1, 0), want == -4 ? 0 : -100 - want);
    }

    private static void faults() {
        due.sentence("FAULT: the place of the first byte with which no ACT can go on (the size, if it ends too early).");
        fault("", 0);
        fault("e", 1);
        fault("e:", 2);
        fault("e:a", 3);
        fault("e:a=", 4);
        fault("e:a=1", -4);
        fault("e:a=1#", 5);
        fault("e:a=1u", 6);
        fault("e:a=1ua=1", -4);
        fault("e:a=1ua=1u", 9);
        fault("e:(a=1", 6);
        fault("e:(a=1u", 6);
        fault("##", 0);
        fault("e##", 1);
        fault("e:##", 2);
        fault("e:a##", 3);
        MilkDesk x = new MilkDesk();
        for (int b = -128; b < 128; b++) {
            Due.bytes(x, 0, b, b);
            due.is("the first of two bytes " + b, x.fault(0), b == 'e' || b == 'r' || b == 'o' ? 1 : 0);
        }
    }

    private static void rowsOfEighty() {
        due.sentence("ACTS are read from ROWS of bytes:");
        String longest = "e:" + "a+".repeat(37) + "a=12";
        fault(longest, -4);
        fault(longest.substring(0, 79), -4);
        fault("e:" + "a+".repeat(39), 80);
        fault("e:" + "!".repeat(78), 80);
        fault("e:" + "!".repeat(75) + "1=1", -4);
        fault("e:" + "1=1|".repeat(19) + "1=", 80);
        fault("e:" + "1=1&".repeat(19) + "1#", 79);
        fault("e:1" + "=1".repeat(38) + "1", 5);
        MilkDesk x = Due.withSchools(1);
        Due.act(x, "e:" + "2-".repeat(37) + "0=12", -1, 0);
        due.is("a text of 80: 2 less 36 times 2 less 0 isn't 12", x.holds(0, 0, 0, 0), 0);
        Due.act(x, "e:" + "1+".repeat(37) + "1=38", -1, 0);
        due.is("a text of 80: 38 times 1", x.holds(0, 0, 0, 0), 1);
        Due.act(x, "r:1=2" + "|1=2".repeat(17) + "u1=1", -1, 0);
        due.is("a text of 77", x.holds(1, 0, 0, 0), 0);
        Due.act(x, "r:1=2" + "|1=2".repeat(16) + "|1=1" + "u1=1", -1, 0);
        due.is("a text of 77, unless", x.holds(1, 0, 0, 0), 0);
        Due.act(x, "r:1=2" + "|1=2".repeat(16) + "|1=1" + "u1=2", -1, 0);
        due.is("a text of 77, unless it doesn't", x.holds(1, 0, 0, 0), 1);
    }

    private static void unless() {
        due.sentence("An ACT HOLDS, if its first OR holds, and its UNLESS (if it has one) doesn't.");
        String[] signs = {"1=2", "1=1"};
        for (int first = 0; first < 2; first++) {
            MilkDesk x = Due.withSchools(1);
            Due.act(x, "r:" + signs[first], -1, 0);
            due.is("without an UNLESS, " + first, x.holds(1, 0, 0, 0), first);
            for (int second = 0; second < 2; second++) {
                MilkDesk y = Due.withSchools(1);
                Due.act(y, "r:" + signs[first] + "u" + signs[second], -1, 0);
                due.is("with an UNLESS, " + first + ", " + second, y.holds(1, 0, 0, 0), first == 1 && second == 0 ? 1 : 0);
                MilkDesk z = Due.withSchools(1);
                Due.act(z, "r:" + signs[first] + "|1=2u1=2|" + signs[second], -1, 0);
                due.is("u is weaker than |, " + first + ", " + second, z.holds(1, 0, 0, 0), first == 1 && second == 0 ? 1 : 0);
            }
        }
    }

    private static void sixteenActs() {
        due.sentence("ACTS are numbered as they are told, 16 at most,");
        MilkDesk x = Due.withSchools(1);
        for (int k = 0; k < 16; k++) {
            due.is("ahead of its telling: " + k, x.strike(k, 400), -1);
            due.is("told", Due.act(x, "ero".charAt(k % 3) + ":1=1", -1, 0), k);
            due.is("how many", x.count(2), k + 1);
        }
        due.is("an ACT 16", Due.act(x, "e:1=2", -1, 0), -2);
        due.is("an ACT 17", Due.act(x, "e:1=2", -1, 400), -2);
        due.is("how many still", x.count(2), 16);
        due.is("the last in force", x.force(0, 0, 0), 15);
        due.is("the last of r", x.force(1, 0, 0), 13);
        for (int k = 0; k < 16; k++) {
            due.is("struck: " + k, x.strike(k, 400), 1);
        }
        due.is("no room for one in place of one STRUCK", Due.act(x, "e:1=2", -1, 0), -2);
    }

    private static void shiresOfActs() {
        due.sentence("each for a SHIRE (or all: -1), from a DAY (DAY or later) on,");
        for (int shire = -1; shire < 4; shire++) {
            MilkDesk x = new MilkDesk();
            for (int k = 0; k < 4; k++) {
                x.school(k, 0);
            }
            Due.act(x, "e:1=2", shire, 0);
            for (int k = 0; k < 4; k++) {
                boolean its = shire == -1 || shire == k;
                due.is("for " + shire + ", in force for " + k, x.force(0, k, 0), its ? 0 : -4);
                due.is("for " + shire + ", holds for " + k, x.holds(0, k, 0, 0), its ? 0 : 1);
            }
        }
        MilkDesk y = Due.withSchools(1);
        y.go(60);
        due.is("from a DAY that has been", Due.act(y, "e:1=1", -1, 59), -1);
        due.is("from DAY on", Due.act(y, "e:1=1", -1, 60), 0);
        due.is("from a later one on", Due.act(y, "e:1=1", -1, 61), 1);
        due.is("ahead of DAY", y.force(0, 0, 59), -4);
        due.is("on DAY", y.force(0, 0, 60), 0);
        due.is("on the later one", y.force(0, 0, 61), 1);
    }

    private static void daysOfActs() {
        due.sentence("till it is STRUCK (from that DAY on).");
        MilkDesk x = Due.withSchools(1);
        x.go(10);
        Due.act(x, "r:1=1", -1, 10);
        due.is("not STRUCK: on the last DAY", x.force(1, 0, 400), 0);
        due.is("STRUCK from 20 on", x.strike(0, 20), 1);
        due.is("on the first DAY", x.force(1, 0, 10), 0);
        due.is("on the DAY ahead", x.force(1, 0, 19), 0);
        due.is("it holds on the DAY ahead", x.holds(1, 0, 0, 19), 1);
        due.is("on that DAY", x.force(1, 0, 20), -4);
        due.is("it doesn't hold on that DAY", x.holds(1, 0, 0, 20), 0);
        due.is("behind it", x.force(1, 0, 400), -4);
        Due.act(x, "r:1=1", -1, 30);
        x.strike(1, 30);
        due.is("STRUCK on its first DAY", x.force(1, 0, 30), -4);
        Due.act(x, "r:1=1", -1, 10);
        x.strike(2, 400);
        due.is("STRUCK on the last DAY: ahead of it", x.force(1, 0, 399), 2);
        due.is("STRUCK on the last DAY", x.force(1, 0, 400), -4);
        Due.act(x, "r:1=1", -1, 10);
        x.strike(3, 10);
        due.is("STRUCK today", x.force(1, 0, 10), 2);
    }

    private static void inForce() {
        due.sentence("of those for its SHIRE or all, begun and not STRUCK, the one with the latest DAY, of several the one told last;");
        MilkDesk x = Due.withSchools(1);
        Due.act(x, "e:1=1", 0, 5);
        Due.act(x, "e:1=1", -1, 6);
        Due.act(x, "e:1=1", 1, 7);
        Due.act(x, "r:1=1", 0, 7);
        Due.act(x, "e:1=1", 0, 6);
        Due.act(x, "e:1=1", -1, 5);
        due.is("none begun", x.force(0, 0, 4), -4);
        due.is("of two from 5 on the one told last", x.force(0, 0, 5), 5);
        due.is("of two from 6 on the one told last", x.force(0, 0, 6), 4);
        due.is("not that of another SHIRE, nor that of another PURPOSE", x.force(0, 0, 7), 4);
        x.strike(4, 8);
        due.is("not yet STRUCK", x.force(0, 0, 7), 4);
        due.is("STRUCK: the other one from 6 on", x.force(0, 0, 8), 1);
        x.strike(1, 9);
        due.is("STRUCK, too: the one from 5 on that was told last", x.force(0, 0, 9), 5);
        Due.act(x, "e:1=2", 0, 0);
        due.is("an earlier DAY, though told last", x.force(0, 0, 9), 5);
        due.is("from DAY 0 on", x.force(0, 0, 0), 6);
        due.is("it doesn't hold there", x.holds(0, 0, 0, 0), 0);
        due.is("but it does behind", x.holds(0, 0, 0, 5), 1);
    }

    private static void withoutOne() {
        due.sentence("without one: e holds, r and o don't.");
        MilkDesk x = Due.withSchools(1);
        int[] days = {0, 6, 400};
        for (int day : days) {
            for (int age = 0; age < 3; age++) {
                due.is("e", x.holds(0, 0, age, day), 1);
                due.is("r", x.holds(1, 0, age, day), 0);
                due.is("o", x.holds(2, 0, age, day), 0);
            }
        }
        Due.act(x, "e:1=2", -1, 5);
        due.is("e ahead of its ACT", x.holds(0, 0, 0, 4), 1);
        due.is("e by its ACT", x.holds(0, 0, 0, 5), 0);
    }

    private static void agesOfPurposes() {
        due.sentence("(Of r and o the AGE is 0.)");
        MilkDesk x = Due.withSchools(1);
        Due.act(x, "e:a=2", -1, 0);
        Due.act(x, "r:a=2", -1, 0);
        Due.act(x, "o:a=0", -1, 0);
        Due.act(x, "e:a=1", -1, 0);
        Due.act(x, "o:a=1", -1, 0);
        due.is("r of AGE 2", x.holds(1, 0, 2, 0), 0);
        due.is("o of AGE 1", x.holds(2, 0, 1, 0), 0);
        due.is("o quarrels of AGE 0", x.quarrel(2, 0, 0, 0), 204);
        due.is("o quarrels of AGE 1 as of 0", x.quarrel(2, 0, 1, 0), 204);
        due.is("e quarrels of AGE 0 not at all", x.quarrel(0, 0, 0, 0), -4);
        due.is("e quarrels of AGE 1", x.quarrel(0, 0, 1, 0), 300);
        due.is("e quarrels of AGE 2", x.quarrel(0, 0, 2, 0), 3);
    }

    private static void quarrels() {
        due.sentence("(for it, begun, not STRUCK) the least one that holds and the least one that doesn't.");
        MilkDesk x = Due.withSchools(1);
        due.is("none", x.quarrel(0, 0, 0, 5), -4);
        Due.act(x, "e:1=1", 1, 0);
        Due.act(x, "e:1=2", -1, 6);
        Due.act(x, "e:1=1", 0, 5);
        Due.act(x, "r:1=2", 0, 0);
        due.is("one holds", x.quarrel(0, 0, 0, 5), -4);
        due.is("one begun that doesn't", x.quarrel(0, 0, 0, 6), 201);
        due.is("one that doesn't hold alone", x.quarrel(1, 0, 0, 6), -4);
        Due.act(x, "e:1=1", -1, 0);
        Due.act(x, "e:1=2", -1, 0);
        due.is("the least ones", x.quarrel(0, 0, 0, 6), 201);
        due.is("the least ones begun", x.quarrel(0, 0, 0, 5), 205);
        due.is("the least ones begun", x.quarrel(0, 0, 0, 4), 405);
        x.strike(1, 8);
        due.is("not yet STRUCK", x.quarrel(0, 0, 0, 7), 201);
        due.is("STRUCK", x.quarrel(0, 0, 0, 8), 205);
        x.strike(2, 9);
        due.is("STRUCK, too", x.quarrel(0, 0, 0, 9), 405);
        x.strike(5, 10);
        due.is("none that doesn't hold", x.quarrel(0, 0, 0, 10), -4);
    }

    private static void fault() {
        due.sentence("The FAULT of the text in SHELF d; -4: it is an ACT. -1, -11, -12 (no ROW of bytes).");
        MilkDesk x = new MilkDesk();
        due.each("no SHELF", -1, x::fault, -1, 8, Integer.MIN_VALUE, Integer.MAX_VALUE);
        due.is("nothing held", x.fault(0), -11);
        x.keep(0, 1, 0, 0, 0);
        due.is("a CRATE", x.fault(0), -12);
        for (int sort = 1; sort < 3; sort++) {
            Due.fill(x, 0, sort, 'e', ':', 'a', '=', '1');
            due.is("a ROW of sort " + sort, x.fault(0), -12);
            x.row(0, sort, 0);
            due.is("an empty ROW of sort " + sort, x.fault(0), -12);
        }
        x.row(0, 0, 0);
        due.is("an empty ROW of bytes", x.fault(0), 0);
        x.row(0, 0, 80);
        due.is("a ROW of 80 zeros", x.fault(0), 0);
        Due.text(x, 0, "e:a=1");
        due.is("an ACT", x.fault(0), -4);
        for (int k = 0; k < 16; k++) {
            x.act(0, -1, 0);
        }
        due.is("where there is no room for it", x.fault(0), -4);
    }

    private static void act() {
        due.sentence("The text in SHELF d is an ACT for a SHIRE (-1: all) from a DAY on:");
        MilkDesk y = Due.withSchools(1);
        Due.text(y, 0, "e:1=2");
        due.is("for all from the last DAY on", y.act(0, -1, 400), 0);
        due.is("for another SHIRE from the first DAY on", y.act(0, 3, 0), 1);
        y.row(0, 0, 0);
        due.is("ahead of its DAY", y.holds(0, 0, 0, 399), 1);
        due.is("the text is read when it is told", y.holds(0, 0, 0, 400), 0);
        due.sentence("its number. -1 (a DAY that has been, above 400), -2, -11, -12, -100 less a FAULT, in this order.");
        MilkDesk x = Due.withSchools(1);
        x.go(30);
        Due.text(x, 0, "e:a=1");
        Due.text(x, 1, "e:a=1#");
        x.row(2, 1, 5);
        x.keep(3, 1, 0, 1, 0);
        x.row(4, 0, 0);
        due.range("a DAY", -1, 30, 400, n -> x.act(0, 0, n));
        due.range("a SHIRE", -1, -1, 3, n -> x.act(0, n, 30));
        due.is("how many", x.count(2), 4);
        for (int d = 0; d < 8; d++) {
            due.is("a DAY that has been, of SHELF " + d, x.act(d, 0, 29), -1);
            due.is("no SHIRE, of SHELF " + d, x.act(d, 4, 30), -1);
        }
        due.is("no SHELF", x.act(8, 0, 30), -1);
        due.is("nothing held", x.act(5, 0, 30), -11);
        due.is("a CRATE", x.act(3, 0, 30), -12);
        due.is("a ROW of shorts", x.act(2, 0, 30), -12);
        due.is("a FAULT at its end", x.act(1, 0, 30), -105);
        due.is("a FAULT at 0", x.act(4, 0, 30), -100);
        due.is("how many still", x.count(2), 4);
        for (int k = 4; k < 16; k++) {
            due.is("its number", x.act(0, 0, 30), k);
        }
        for (int d = 0; d < 8; d++) {
            due.is("no room, of SHELF " + d, x.act(d, 0, 30), -2);
            due.is("no room, a DAY above 400, of SHELF " + d, x.act(d, 0, 401), -1);
            due.is("no room, no SHIRE, of SHELF " + d, x.act(d, -2, 30), -1);
        }
        due.is("no room, no SHELF", x.act(-1, 0, 30), -1);
    }

    private static void strike() {
        due.sentence("An ACT is STRUCK from a DAY (DAY .. 400) on: 1. -1; -3: it was told so.");
        MilkDesk x = Due.withSchools(1);
        for (int k = 0; k < 3; k++) {
            Due.act(x, "e:a=1", -1, 100);
        }
        x.go(60);
        due.each("a DAY that isn't told", -1, n -> x.strike(0, n), 59, 0, -1, 401, Integer.MIN_VALUE, Integer.MAX_VALUE);
        due.each("an ACT that isn't", -1, n -> x.strike(n, 60), -1, 3, 15, 16, Integer.MIN_VALUE, Integer.MAX_VALUE);
        due.is("from DAY on", x.strike(0, 60), 1);
        due.is("from 400 on", x.strike(2, 400), 1);
        due.is("it was told so", x.strike(0, 60), -3);
        due.is("it was told so, another DAY", x.strike(2, 60), -3);
        due.is("it was told so, on a DAY that has been", x.strike(2, 59), -1);
        due.is("it was told so, above 400", x.strike(2, 401), -1);
        due.is("it still is from 400 on", x.force(0, 0, 399), 2);
        due.is("it still is from 400 on", x.force(0, 0, 400), 1);
        Due.goTo(x, 400);
        due.is("on the last DAY", x.strike(1, 400), 1);
    }

    private static void force() {
        due.sentence("for a PURPOSE (0 e, 1 r, 2 o) and a SCHOOL on a DAY (0 .. 400); -4: none. -1.");
        MilkDesk x = Due.withSchools(2);
        due.range("a PURPOSE", -1, 0, 2, n -> x.force(n, 0, 0));
        due.range("a SCHOOL", -1, 0, 1, n -> x.force(0, n, 0));
        due.range("a DAY", -1, 0, 400, n -> x.force(0, 0, n));
        due.is("none", x.force(2, 1, 400), -4);
        Due.act(x, "o:1=2", -1, 400);
        due.is("one on the last DAY, that doesn't hold", x.force(2, 1, 400), 0);
        due.is("none ahead of it", x.force(2, 1, 399), -4);
    }

    private static void holds() {
        due.sentence("Whether a PURPOSE holds for a SCHOOL and an AGE on a DAY (HEADS as they count then): 1, 0. -1.");
        MilkDesk x = Due.withSchools(2);
        due.range("a PURPOSE", -1, 0, 2, n -> x.holds(n, 0, 0, 0));
        due.range("a SCHOOL", -1, 0, 1, n -> x.holds(0, n, 0, 0));
        due.range("an AGE", -1, 0, 2, n -> x.holds(0, 0, n, 0));
        due.range("a DAY", -1, 0, 400, n -> x.holds(0, 0, 0, n));
        Due.act(x, "e:n=200", -1, 0);
        Due.heads(x, 2, 201, 199);
        due.is("ahead of the Monday", x.holds(0, 0, 0, 6), 0);
        due.is("on the Monday", x.holds(0, 0, 0, 7), 1);
        due.is("on the last DAY", x.holds(0, 0, 2, 400), 1);
        due.is("for another SCHOOL", x.holds(0, 1, 0, 7), 0);
    }

    private static void quarrel() {
        due.sentence("QUARREL: 100 times the one that holds and the one that doesn't; -4: none. -1.");
        MilkDesk x = Due.withSchools(2);
        due.range("a PURPOSE", -1, 0, 2, n -> x.quarrel(n, 0, 0, 0));
        due.range("a SCHOOL", -1, 0, 1, n -> x.quarrel(0, n, 0, 0));
        due.range("an AGE", -1, 0, 2, n -> x.quarrel(0, 0, n, 0));
        due.range("a DAY", -1, 0, 400, n -> x.quarrel(0, 0, 0, n));
        due.is("none", x.quarrel(0, 0, 0, 0), -4);
        for (int k = 0; k < 15; k++) {
            Due.act(x, k == 0 ? "e:c=0" : "r:c=0", -1, 0);
        }
        Due.act(x, "e:c=1", -1, 0);
        due.is("the first holds, the last doesn't", x.quarrel(0, 0, 0, 0), 15);
        due.is("the last holds, the first doesn't", x.quarrel(0, 1, 0, 0), 1500);
        due.is("all hold", x.quarrel(1, 0, 0, 0), -4);
        due.is("none holds", x.quarrel(1, 1, 0, 0), -4);
    }
}
