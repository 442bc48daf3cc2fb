/**
 * All that a desk tells, as one text. Asking leaves the desk as it was: what is told only when it is set (by `set`,
 * `bid`, `month`) is set and then set back.
 */
final class Told {
    private static final int[] DAYS = {0, 6, 7, 13, 14, 20, 21, 60, 365, 389, 390, 391, 399, 400};

    static String all(MilkDesk x) {
        return world(x) + shelves(x);
    }

    /** All but the shelves. */
    static String world(MilkDesk x) {
        StringBuilder all = new StringBuilder();
        for (int what = 0; what <= 8; what++) {
            add(all, x.count(what));
        }
        for (int school = 0; school < x.count(0); school++) {
            school(all, x, school);
        }
        for (int dairy = 0; dairy < x.count(1); dairy++) {
            add(all, x.bottles(dairy));
            for (int shire = 0; shire < 4; shire++) {
                int was = x.bid(dairy, shire, -1);
                x.bid(dairy, shire, was == -4 ? -1 : was);
                add(all, was);
            }
        }
        for (int month = 0; month < 12; month++) {
            for (int what = 0; what < 3; what++) {
                int was = x.month(month, what, 0);
                x.month(month, what, was);
                add(all, was);
            }
        }
        for (int shire = 0; shire < 4; shire++) {
            add(all, x.won(shire));
            for (int what = 0; what < 3; what++) {
                add(all, x.byHowMuch(shire, what));
            }
        }
        return all.toString();
    }

    private static void school(StringBuilder all, MilkDesk x, int school) {
        for (int what = 0; what <= 10; what++) {
            add(all, x.of(school, what));
        }
        for (int what = 0; what < 3; what++) {
            int was = x.set(school, what, 0);
            x.set(school, what, was);
            add(all, was);
        }
        add(all, x.order(school));
        for (int day : DAYS) {
            for (int age = 0; age < 3; age++) {
                add(all, x.head(school, age, day, 0));
                add(all, x.head(school, age, day, 400));
                add(all, x.force(age, school, day));
                for (int purpose = 0; purpose < 3; purpose++) {
                    add(all, x.holds(purpose, school, age, day));
                    add(all, x.quarrel(purpose, school, age, day));
                }
            }
        }
    }

    /** The sorts of rows are told apart by whether nothing can be copied between them. */
    static String shelves(MilkDesk x) {
        StringBuilder all = new StringBuilder();
        for (int d = 0; d < 8; d++) {
            add(all, x.crate(d, 0, 0));
            add(all, x.crate(d, 1, 999));
            add(all, x.toss(d));
            add(all, x.fault(d));
            for (int e = 0; e < 8; e++) {
                add(all, x.copy(d, 0, e, 0, 0));
            }
            for (int i = 0; i <= 80; i++) {
                add(all, element(x, d, i));
            }
        }
        return all.toString();
    }

    private static long element(MilkDesk x, int d, int i) {
        try {
            return x.element(d, i);
        } catch (IllegalStateException e) {
            return Long.MIN_VALUE;
        }
    }

    private static void add(StringBuilder all, long n) {
        all.append(n).append(' ');
    }
}
