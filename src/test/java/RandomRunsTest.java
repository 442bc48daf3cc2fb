import java.util.Random;

/**
 * Runs of calls drawn by fixed seeds, on MilkDesk and PlainDesk side by side: each answer must be the same.
 * The calls that fill a shelf for another one are not counted, so that a run sees as much as 512 calls can hold.
 */
public final class RandomRunsTest {
    private static final int RUNS = 400;
    private static final int DRAWN = 400;
    private static final String[] NAMES = {"school", "set", "dairy", "bid", "won", "bottles", "month", "heads", "head", "fault",
        "act", "strike", "force", "holds", "quarrel", "go", "of", "order", "look", "byHowMuch", "round", "judge", "bought",
        "parted", "away", "beside", "image", "restore", "count", "keep", "row", "put", "element", "copy", "crate", "toss"};
    /** How often each is drawn. */
    private static final int[] SHARES = {8, 8, 5, 8, 2, 2, 8, 10, 4, 3,
        8, 3, 4, 6, 5, 8, 8, 4, 5, 4, 8, 6, 2,
        6, 3, 6, 1, 2, 5, 6, 4, 5, 5, 6, 6, 6};

    private final Random random;
    private final MilkDesk desk = new MilkDesk();
    private final PlainDesk plain = new PlainDesk();
    private final int run;
    private final Due due;
    private final long[] answered;
    private int calls;

    private RandomRunsTest(int run, Due due, long[] answered) {
        this.run = run;
        this.due = due;
        this.answered = answered;
        this.random = new Random(run);
    }

    public static void main(String[] args) {
        Due due = new Due("RandomRunsTest");
        int runs = args.length > 0 ? Integer.parseInt(args[0]) : RUNS;
        int first = args.length > 1 ? Integer.parseInt(args[1]) : 0;
        long[] answered = new long[NAMES.length];
        for (int run = first; run < first + runs; run++) {
            new RandomRunsTest(run, due, answered).go();
        }
        for (int k = 0; k < NAMES.length; k++) {
            if (args.length > 0) System.out.println(NAMES[k] + " " + answered[k]);
            due.holds(NAMES[k] + " was answered with more than refusals", answered[k] > runs / 10);
        }
        due.end();
    }

    private int upTo(int n) {
        return random.nextInt(n + 1);
    }

    /** Mostly a number of the range, now and then one just beside it, or a wild one: in every third run often. */
    private int in(int least, int most) {
        int kind = random.nextInt(run % 3 == 0 ? 16 : 60);
        if (kind == 0) {
            return least - 1;
        }
        if (kind == 1) {
            return most + 1;
        }
        if (kind == 2) {
            int wild = random.nextInt();
            return wild % 3 == 0 ? Integer.MIN_VALUE : wild % 3 == 1 ? Integer.MAX_VALUE : wild;
        }
        if (kind < 6) {
            return least;
        }
        if (kind < 9) {
            return most;
        }
        return least + random.nextInt(most - least + 1);
    }

    private int anySchool() {
        return in(0, Math.max(0, plain.count(0) - 1));
    }

    private int anyDairy() {
        return in(0, Math.max(0, plain.count(1) - 1));
    }

    private int anyDay() {
        int day = plain.count(3);
        return random.nextInt(3) == 0 ? in(0, 400) : in(Math.max(0, day - 10), Math.min(400, day + 20));
    }

    private int comingDay() {
        return random.nextInt(3) == 0 ? in(plain.count(3), 400) : in(plain.count(3), Math.min(400, plain.count(3) + 15));
    }

    private void go() {
        begin();
        int all = 0;
        for (int share : SHARES) {
            all += share;
        }
        for (int n = 0; n < DRAWN; n++) {
            int drawn = random.nextInt(all);
            int k = 0;
            while (drawn >= SHARES[k]) {
                drawn -= SHARES[k];
                k++;
            }
            draw(k);
        }
    }

    private void begin() {
        int schools = upTo(7);
        for (int k = 0; k < schools; k++) {
            draw(0);
        }
        int dairies = upTo(3);
        for (int k = 0; k < dairies; k++) {
            draw(2);
            for (int shire = 0; shire < 4; shire++) {
                ask(3, k, shire, upTo(300));
            }
        }
    }

    /** What a call wants to find in a shelf is often put there first. */
    private void draw(int k) {
        switch (k) {
            case 0: ask(k, in(0, random.nextInt(2) == 0 ? 1 : 3), in(0, 9999)); break;
            case 1: drawSet(); break;
            case 2: ask(k, in(0, 9999), in(0, random.nextInt(2) == 0 ? 500 : 9999), in(1, random.nextInt(2) == 0 ? 900 : 9999)); break;
            case 3: ask(k, anyDairy(), in(0, 3), random.nextInt(2) == 0 ? in(-1, 3) : in(-1, 999)); break;
            case 4: ask(k, in(0, 3)); break;
            case 5: ask(k, anyDairy()); break;
            case 6: drawMonth(); break;
            case 7: ask(k, in(0, 2), shelf(this::headRow)); break;
            case 8: ask(k, anySchool(), in(0, 2), anyDay(), anyDay()); break;
            case 9: ask(k, shelf(this::text)); break;
            case 10: ask(k, shelf(this::text), in(-1, random.nextInt(2) == 0 ? 0 : 3), comingDay()); break;
            case 11: ask(k, in(0, Math.max(0, plain.count(2) - 1)), comingDay()); break;
            case 12: ask(k, in(0, 2), anySchool(), anyDay()); break;
            case 13: ask(k, in(0, 2), anySchool(), in(0, 2), anyDay()); break;
            case 14: ask(k, in(0, 2), anySchool(), in(0, 2), anyDay()); break;
            case 15: ask(k, random.nextInt(4) == 0 ? in(1, 60) : in(1, 7)); break;
            case 16: ask(k, anySchool(), in(0, 10)); break;
            case 17: ask(k, anySchool()); break;
            case 18: ask(k, anySchool(), in(0, Math.max(0, plain.count(3) - 1)), in(0, 999)); break;
            case 19: ask(k, in(0, 3), in(0, 2)); break;
            case 20: drawRounds(); break;
            case 21: ask(k, anyDairy(), in(0, 600), shelf(this::stops)); break;
            case 22: ask(k, anyDairy(), in(1, 20)); break;
            case 23: ask(k, in(0, random.nextInt(2) == 0 ? 300 : 9999), comingDay(), order(), in(0, 3)); break;
            case 24: ask(k, in(0, 2), random.nextInt(3) == 0 ? in(1, 60) : in(1, 12), in(0, 2)); break;
            case 25: ask(k, shelf(this::marks), random.nextInt(2) == 0 ? in(0, 30) : in(0, 600), in(0, 1)); break;
            case 28: ask(k, in(0, 8)); break;
            case 29: ask(k, in(0, 7), in(0, 3) == 0 ? 0 : in(1, 1), in(0, 6), random.nextInt(3) == 0 ? in(0, 1) : in(0, 9999), in(0, 11)); break;
            case 30: ask(k, in(0, 7), in(0, 2), random.nextInt(2) == 0 ? in(0, 12) : in(0, 80)); break;
            case 31: ask(k, in(0, 7), in(0, 20), random.nextInt()); break;
            case 32: ask(k, in(0, 7), in(0, 20)); break;
            case 33: ask(k, in(0, 7), in(0, 4), in(0, 7), in(0, 4), in(0, 8)); break;
            case 34: ask(k, in(0, 7), in(0, 1), in(0, 999)); break;
            case 35: ask(k, in(0, 7)); break;
            default: ask(k); break;
        }
    }

    private void drawSet() {
        int what = in(0, 2);
        ask(1, anySchool(), what, what == 2 ? in(0, 999) : in(0, random.nextInt(2) == 0 ? 15 : 100));
    }

    private void drawMonth() {
        int what = in(0, 2);
        int month = random.nextInt(3) == 0 ? in(0, 11) : Math.min(11, plain.count(3) / 30 % 12);
        int cows = random.nextInt(2) == 0 ? in(0, 1500) : in(0, 99999);
        ask(6, month, what, what == 0 ? in(0, random.nextInt(2) == 0 ? 10 : 100) : what == 1 ? in(0, 99) : cows);
    }

    private void drawRounds() {
        int dairy = anyDairy();
        int minute = in(0, 600);
        int d = shelf(this::stops);
        for (int i = random.nextInt(2) == 0 ? -1 : 5; i < 7; i++) {
            ask(20, dairy, minute, d, i);
        }
        ask(20, dairy, minute, d, in(-1, 6));
    }

    private int order() {
        int order = 228;
        for (int k = 0; k < 3; k++) {
            int a = random.nextInt(4);
            int b = random.nextInt(4);
            int da = order >> 2 * a & 3;
            int db = order >> 2 * b & 3;
            order = order & ~(3 << 2 * a) & ~(3 << 2 * b) | db << 2 * a | da << 2 * b;
            order = a == b ? order | da << 2 * a : order;
        }
        return random.nextInt(10) == 0 ? in(0, 255) : order;
    }

    private interface Filler {
        void fill(int d);
    }

    private int shelf(Filler filler) {
        int d = in(0, 7);
        if (d >= 0 && d <= 7 && random.nextInt(12) != 0) {
            filler.fill(d);
        }
        return d;
    }

    private void fill(int d, int sort, int[] elements) {
        ask(30, d, sort, elements.length);
        for (int i = 0; i < elements.length; i++) {
            ask(31, d, i, elements[i]);
        }
    }

    private void headRow(int d) {
        int sort = in(0, 2);
        int[] heads = new int[random.nextInt(4) == 0 ? upTo(14) : Math.min(12, Math.max(1, plain.count(0)))];
        for (int k = 0; k < heads.length; k++) {
            int least = sort == 0 ? -128 : sort == 1 ? -32768 : Integer.MIN_VALUE;
            heads[k] = random.nextInt(6) == 0 ? least : random.nextInt(12) == 0 ? random.nextInt() : upTo(sort == 0 ? 127 : 230);
        }
        fill(d, sort, heads);
    }

    private void marks(int d) {
        int[] marks = new int[upTo(13)];
        for (int k = 0; k < marks.length; k++) {
            marks[k] = random.nextInt(10) == 0 ? in(-1, 3) : upTo(1);
        }
        fill(d, random.nextInt(12) == 0 ? in(0, 2) : 0, marks);
    }

    private void stops(int d) {
        int schools = Math.max(1, plain.count(0));
        int[] stops = new int[random.nextInt(8) == 0 ? upTo(14) : 1 + random.nextInt(Math.min(7, schools))];
        int at = random.nextInt(schools);
        int step = random.nextInt(4) == 0 ? 5 : 1;
        for (int k = 0; k < stops.length; k++) {
            stops[k] = random.nextInt(30) == 0 ? in(-1, 12) : (at + step * k) % schools;
        }
        for (int k = stops.length - 1; k > 0; k--) {
            int other = random.nextInt(k + 1);
            int was = stops[k];
            stops[k] = stops[other];
            stops[other] = was;
        }
        fill(d, random.nextInt(20) == 0 ? in(0, 2) : 0, stops);
    }

    private void text(int d) {
        StringBuilder text = new StringBuilder();
        text.append("eeero".charAt(random.nextInt(5))).append(':');
        or(text, 0);
        if (random.nextInt(3) == 0) {
            text.append('u');
            or(text, 0);
        }
        while (random.nextInt(3) == 0) {
            int at = random.nextInt(text.length() + 1);
            char sign = "asmdwhnxyc0123456789!()&|<>=+-ue:ro# ".charAt(random.nextInt(37));
            if (random.nextBoolean()) {
                text.insert(at, sign);
            } else if (at < text.length()) {
                text.setCharAt(at, random.nextInt(9) == 0 ? (char) (128 + random.nextInt(128)) : sign);
            }
        }
        int[] bytes = new int[Math.min(80, text.length())];
        for (int k = 0; k < bytes.length; k++) {
            bytes[k] = text.charAt(k);
        }
        fill(d, random.nextInt(40) == 0 ? in(0, 2) : 0, bytes);
    }

    private void or(StringBuilder text, int depth) {
        and(text, depth);
        while (random.nextInt(4) == 0) {
            text.append('|');
            and(text, depth);
        }
    }

    private void and(StringBuilder text, int depth) {
        test(text, depth);
        while (random.nextInt(4) == 0) {
            text.append('&');
            test(text, depth);
        }
    }

    private void test(StringBuilder text, int depth) {
        while (random.nextInt(5) == 0) {
            text.append('!');
        }
        int deeper = random.nextInt(200) == 0 ? 9 : random.nextInt(5) == 0 ? 1 : 0;
        if (deeper > 0 && depth + deeper <= 10) {
            text.append("(".repeat(deeper));
            or(text, depth + deeper);
            text.append(")".repeat(deeper));
        } else {
            sum(text);
            text.append("<>=".charAt(random.nextInt(3)));
            sum(text);
        }
    }

    private void sum(StringBuilder text) {
        atom(text);
        while (random.nextInt(4) == 0) {
            text.append("+-".charAt(random.nextInt(2)));
            atom(text);
        }
    }

    private void atom(StringBuilder text) {
        if (random.nextInt(3) == 0) {
            text.append(upTo(random.nextInt(3) == 0 ? 400 : 6));
        } else {
            text.append("aaasmdwhnxyc".charAt(random.nextInt(12)));
        }
    }

    private void ask(int k, int... a) {
        calls++;
        int before = due.wrong();
        if (k == 32) {
            due.is("element", thrownOr(true, a), thrownOr(false, a));
            answered[k] += thrownOr(false, a) < 5000000000L ? 1 : 0;
        } else {
            long want = plainly(k, a);
            long got = desk(k, a);
            due.is(NAMES[k], got, want);
            boolean lower = k == 19 || k == 24 || k == 25;
            answered[k] += want > (lower ? -1000000000 : -1) ? 1 : 0;
        }
        if (due.wrong() != before) {
            System.out.println("  in run " + run + ", call " + calls + ": " + NAMES[k] + java.util.Arrays.toString(a));
        }
    }

    private long thrownOr(boolean ofDesk, int[] a) {
        try {
            return ofDesk ? desk.element(a[0], a[1]) : plain.element(a[0], a[1]);
        } catch (IllegalArgumentException e) {
            return 5000000001L;
        } catch (IllegalStateException e) {
            return 5000000002L;
        }
    }

    private long desk(int k, int[] a) {
        switch (k) {
            case 0: return desk.school(a[0], a[1]);
            case 1: return desk.set(a[0], a[1], a[2]);
            case 2: return desk.dairy(a[0], a[1], a[2]);
            case 3: return desk.bid(a[0], a[1], a[2]);
            case 4: return desk.won(a[0]);
            case 5: return desk.bottles(a[0]);
            case 6: return desk.month(a[0], a[1], a[2]);
            case 7: return desk.heads(a[0], a[1]);
            case 8: return desk.head(a[0], a[1], a[2], a[3]);
            case 9: return desk.fault(a[0]);
            case 10: return desk.act(a[0], a[1], a[2]);
            case 11: return desk.strike(a[0], a[1]);
            case 12: return desk.force(a[0], a[1], a[2]);
            case 13: return desk.holds(a[0], a[1], a[2], a[3]);
            case 14: return desk.quarrel(a[0], a[1], a[2], a[3]);
            case 15: return desk.go(a[0]);
            case 16: return desk.of(a[0], a[1]);
            case 17: return desk.order(a[0]);
            case 18: return desk.look(a[0], a[1], a[2]);
            case 19: return desk.byHowMuch(a[0], a[1]);
            case 20: return desk.round(a[0], a[1], a[2], a[3]);
            case 21: return desk.judge(a[0], a[1], a[2]);
            case 22: return desk.bought(a[0], a[1]);
            case 23: return desk.parted(a[0], a[1], a[2], a[3]);
            case 24: return desk.away(a[0], a[1], a[2]);
            case 25: return desk.beside(a[0], a[1], a[2]);
            case 26: return desk.image();
            case 27: return desk.restore();
            case 28: return desk.count(a[0]);
            case 29: return desk.keep(a[0], a[1], a[2], a[3], a[4]);
            case 30: return desk.row(a[0], a[1], a[2]);
            case 31: return desk.put(a[0], a[1], a[2]);
            case 33: return desk.copy(a[0], a[1], a[2], a[3], a[4]);
            case 34: return desk.crate(a[0], a[1], a[2]);
            default: return desk.toss(a[0]);
        }
    }

    private long plainly(int k, int[] a) {
        switch (k) {
            case 0: return plain.school(a[0], a[1]);
            case 1: return plain.set(a[0], a[1], a[2]);
            case 2: return plain.dairy(a[0], a[1], a[2]);
            case 3: return plain.bid(a[0], a[1], a[2]);
            case 4: return plain.won(a[0]);
            case 5: return plain.bottles(a[0]);
            case 6: return plain.month(a[0], a[1], a[2]);
            case 7: return plain.heads(a[0], a[1]);
            case 8: return plain.head(a[0], a[1], a[2], a[3]);
            case 9: return plain.fault(a[0]);
            case 10: return plain.act(a[0], a[1], a[2]);
            case 11: return plain.strike(a[0], a[1]);
            case 12: return plain.force(a[0], a[1], a[2]);
            case 13: return plain.holds(a[0], a[1], a[2], a[3]);
            case 14: return plain.quarrel(a[0], a[1], a[2], a[3]);
            case 15: return plain.go(a[0]);
            case 16: return plain.of(a[0], a[1]);
            case 17: return plain.order(a[0]);
            case 18: return plain.look(a[0], a[1], a[2]);
            case 19: return plain.byHowMuch(a[0], a[1]);
            case 20: return plain.round(a[0], a[1], a[2], a[3]);
            case 21: return plain.judge(a[0], a[1], a[2]);
            case 22: return plain.bought(a[0], a[1]);
            case 23: return plain.parted(a[0], a[1], a[2], a[3]);
            case 24: return plain.away(a[0], a[1], a[2]);
            case 25: return plain.beside(a[0], a[1], a[2]);
            case 26: return plain.image();
            case 27: return plain.restore();
            case 28: return plain.count(a[0]);
            case 29: return plain.keep(a[0], a[1], a[2], a[3], a[4]);
            case 30: return plain.row(a[0], a[1], a[2]);
            case 31: return plain.put(a[0], a[1], a[2]);
            case 33: return plain.copy(a[0], a[1], a[2], a[3], a[4]);
            case 34: return plain.crate(a[0], a[1], a[2]);
            default: return plain.toss(a[0]);
        }
    }
}
