/** What the tests share: counts the answers that are not due, and writes texts into shelves. */
final class Due {
    private final String test;
    private int asked;
    private int wrong;
    private String sentence = "";
    private int askedAhead;

    Due(String test) {
        this.test = test;
    }

    /** What follows looks at this sentence of the document, told word for word (QuotesTest finds it there). */
    void sentence(String quote) {
        endSentence();
        sentence = quote;
        askedAhead = asked;
    }

    private void endSentence() {
        if (!sentence.isEmpty() && asked == askedAhead) {
            wrong++;
            System.out.println(test + ": nothing was asked of \"" + sentence + "\"");
        }
    }

    void is(String call, long got, long want) {
        asked++;
        if (got != want) {
            wrong++;
            System.out.println(test + ": " + call + " answered " + got + ", due is " + want
                    + (sentence.isEmpty() ? "" : ", by \"" + sentence + "\""));
        }
    }

    int wrong() {
        return wrong;
    }

    void holds(String what, boolean so) {
        is(what, so ? 1 : 0, 1);
    }

    /** Asks for each number that it is refused so. */
    interface Call {
        long of(int n);
    }

    void each(String call, long want, Call c, int... numbers) {
        for (int n : numbers) {
            is(call + " with " + n, c.of(n), want);
        }
    }

    /** Asks for the numbers beside a range, and for the farthest ones, that they are refused, and for its ends that they aren't. */
    void range(String call, long refusal, int least, int most, Call c) {
        each(call, refusal, c, least - 1, most + 1, Integer.MIN_VALUE, Integer.MAX_VALUE);
        holds(call + " takes " + least, c.of(least) != refusal);
        holds(call + " takes " + most, c.of(most) != refusal);
    }

    void end() {
        endSentence();
        System.out.println(test + ": " + asked + " answers, " + wrong + " not as due");
        if (wrong != 0 || asked == 0) {
            System.exit(1);
        }
    }

    /** A row of bytes with these elements. */
    static void bytes(MilkDesk x, int d, int... elements) {
        fill(x, d, 0, elements);
    }

    static void fill(MilkDesk x, int d, int sort, int... elements) {
        x.row(d, sort, elements.length);
        for (int i = 0; i < elements.length; i++) {
            x.put(d, i, elements[i]);
        }
    }

    static void text(MilkDesk x, int d, String text) {
        x.row(d, 0, text.length());
        for (int i = 0; i < text.length(); i++) {
            x.put(d, i, text.charAt(i));
        }
    }

    /** The act's number, or the refusal. */
    static int act(MilkDesk x, String text, int shire, int day) {
        text(x, 7, text);
        return x.act(7, shire, day);
    }

    static void goTo(MilkDesk x, int day) {
        while (x.count(3) < day) {
            x.go(Math.min(60, day - x.count(3)));
        }
    }

    /** Heads of an age by a row of ints in shelf 6. */
    static int heads(MilkDesk x, int age, int... heads) {
        fill(x, 6, 2, heads);
        return x.heads(age, 6);
    }

    /** A desk whose n schools lie in shire 0 at 10, 0; 20, 0; and so on. */
    static MilkDesk withSchools(int n) {
        MilkDesk x = new MilkDesk();
        for (int k = 0; k < n; k++) {
            x.school(0, 1000 * (k + 1) % 10000);
        }
        return x;
    }

    /** A dairy at 0, 0 that won shire 0 at this price. */
    static int dairy(MilkDesk x, int bottles, int cap, int price) {
        int d = x.dairy(0, bottles, cap);
        x.bid(d, 0, price);
        return d;
    }
}
