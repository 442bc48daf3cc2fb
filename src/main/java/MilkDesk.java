/**
 * The desk of a school milk scheme. The words in capitals are the document's (DOC.md, "Terms").
 *
 * <p>No call makes anything that it could use again: all rows are made with the object.
 */
public final class MilkDesk {
    private static final int LAST_DAY = 400;
    private static final int SHIRES = 4;
    private static final int AGES = 3;
    private static final int MONTHS = 12;
    private static final int MOST_SCHOOLS = 12;
    private static final int MOST_DAIRIES = 5;
    private static final int MOST_ACTS = 16;
    private static final int MOST_HEAD_ROWS = 16;
    private static final int MOST_LOOKS = 30;
    private static final int MOST_STOPS = 7;
    private static final int SHELVES = 8;
    private static final int MOST_ELEMENTS = 80;

    private static final int MOST_HEADS = 200;
    private static final int MOST_HUNDREDTHS = 100;
    private static final int MOST_HEAT = 99;
    private static final int HOT_FROM = 20;
    private static final int MOST_COWS = 99999;
    private static final int MOST_BOTTLES = 9999;
    private static final int MOST_PENCE = 999;
    private static final int MOST_TOLD = 9999;
    private static final int MOST_REALLY = 999;
    private static final int MOST_LATEST = 999;
    private static final int FIRST_LATEST = 660;
    private static final int MOST_MINUTE = 600;
    private static final int MOST_EDGE = 600;
    private static final int MOST_GO = 60;
    private static final int MOST_BOUGHT_DAYS = 20;
    private static final int MOST_BOUGHT = 1000;

    private static final int BAD = -1;
    private static final int NO_ROOM = -2;
    private static final int NOT_NOW = -3;
    private static final int NONE = -4;
    private static final int EMPTY = -11;
    private static final int OTHER_KIND = -12;
    private static final int NO_PLACE = -13;
    private static final int BELOW_ZERO = -14;
    private static final int NO_FAILURE = -15;
    private static final int FAULTY = -100;
    private static final int LOWER = -1000000000;

    private static final int NO_BID = -1;
    private static final int NO_AGE = -1;
    private static final int ALL_SHIRES = -1;
    private static final int NEVER = LAST_DAY + 1;

    private static final int MAY_HAVE = 0;
    private static final int HOT_IS_REFUSED = 1;
    private static final int GONE_IS_OWED = 2;
    private static final int PURPOSES = 3;

    private static final int COLD = 0;
    private static final int HEAT = 1;
    private static final int COWS = 2;
    private static final int MONTH_FACTS = 3;

    private static final int ORDER = 0;
    private static final int COME = 1;
    private static final int UNMET = 2;
    private static final int BURST = 3;
    private static final int REFUSED = 4;
    private static final int GIVEN = 5;
    private static final int LEFT = 6;
    private static final int BACK = 7;
    private static final int GONE = 8;
    private static final int OWED = 9;
    private static final int PAID = 10;
    private static final int SUMS = 11;

    private final World now;
    private final World kept;
    private final World mind;
    private boolean hasImage;
    private final Shelf[] shelves;
    private final ActReader reader;
    private final RoundSearch search;

    public MilkDesk() {
        now = new World();
        kept = new World();
        mind = new World();
        reader = new ActReader();
        search = new RoundSearch();
        shelves = new Shelf[SHELVES];
        for (int d = 0; d < SHELVES; d++) {
            shelves[d] = new Shelf();
        }
    }

    // ---- schools, dairies, months

    public int school(int shire, int told) {
        if (!within(shire, 0, SHIRES - 1) || !within(told, 0, MOST_TOLD)) {
            return BAD;
        }
        if (now.schools.count >= MOST_SCHOOLS) {
            return NO_ROOM;
        }
        return now.schools.come(shire, told);
    }

    public int set(int school, int what, int n) {
        int most = what == 2 ? MOST_LATEST : MOST_HUNDREDTHS;
        if (!now.schools.has(school) || !within(what, 0, 2) || !within(n, 0, most)) {
            return BAD;
        }
        int[] facts = what == 0 ? now.schools.leaves : what == 1 ? now.schools.loses : now.schools.latest;
        int was = facts[school];
        facts[school] = n;
        return was;
    }

    public int dairy(int told, int bottles, int cap) {
        if (!within(told, 0, MOST_TOLD) || !within(bottles, 0, MOST_BOTTLES) || !within(cap, 1, MOST_BOTTLES)) {
            return BAD;
        }
        if (now.dairies.count >= MOST_DAIRIES) {
            return NO_ROOM;
        }
        return now.dairies.come(told, bottles, cap);
    }

    public int bid(int dairy, int shire, int pence) {
        if (!now.dairies.has(dairy) || !within(shire, 0, SHIRES - 1) || !within(pence, NO_BID, MOST_PENCE)) {
            return BAD;
        }
        int place = dairy * SHIRES + shire;
        int was = now.dairies.bids[place];
        now.dairies.bids[place] = pence;
        return was == NO_BID ? NONE : was;
    }

    public int won(int shire) {
        if (!within(shire, 0, SHIRES - 1)) {
            return BAD;
        }
        int winner = now.dairies.winner(shire);
        return winner < 0 ? NONE : winner;
    }

    public int bottles(int dairy) {
        return now.dairies.has(dairy) ? now.dairies.bottles[dairy] : BAD;
    }

    public int month(int month, int what, int n) {
        int most = what == COLD ? MOST_HUNDREDTHS : what == HEAT ? MOST_HEAT : MOST_COWS;
        if (!within(month, 0, MONTHS - 1) || !within(what, 0, MONTH_FACTS - 1) || !within(n, 0, most)) {
            return BAD;
        }
        int place = month * MONTH_FACTS + what;
        int was = now.months[place];
        now.months[place] = n;
        return was;
    }

    // ---- heads

    public int heads(int age, int d) {
        Shelf shelf = shelfAt(d);
        if (shelf == null || !within(age, 0, AGES - 1)) {
            return BAD;
        }
        if (now.heads.count >= MOST_HEAD_ROWS) {
            return NO_ROOM;
        }
        int refusal = rowRefusal(shelf);
        return refusal != 0 ? refusal : now.heads.tell(age, shelf, now.day);
    }

    public int head(int school, int age, int day, int known) {
        if (!now.schools.has(school) || !within(age, 0, AGES - 1)) {
            return BAD;
        }
        if (!within(day, 0, LAST_DAY) || !within(known, 0, LAST_DAY)) {
            return BAD;
        }
        return now.heads.counting(school, age, day, known);
    }

    // ---- acts

    public int fault(int d) {
        Shelf shelf = shelfAt(d);
        if (shelf == null) {
            return BAD;
        }
        int refusal = byteRowRefusal(shelf);
        if (refusal != 0) {
            return refusal;
        }
        int place = reader.firstFault(shelf);
        return place < 0 ? NONE : place;
    }

    public int act(int d, int shire, int day) {
        Shelf shelf = shelfAt(d);
        if (shelf == null || !within(shire, ALL_SHIRES, SHIRES - 1) || !within(day, now.day, LAST_DAY)) {
            return BAD;
        }
        if (now.acts.count >= MOST_ACTS) {
            return NO_ROOM;
        }
        int refusal = byteRowRefusal(shelf);
        if (refusal != 0) {
            return refusal;
        }
        int place = reader.firstFault(shelf);
        return place < 0 ? now.acts.tell(reader.toAct(shire, day)) : FAULTY - place;
    }

    public int strike(int act, int day) {
        if (!now.acts.has(act) || !within(day, now.day, LAST_DAY)) {
            return BAD;
        }
        if (now.acts.struck[act] != NEVER) {
            return NOT_NOW;
        }
        now.acts.struck[act] = day;
        return 1;
    }

    public int force(int purpose, int school, int day) {
        if (!isCase(purpose, school, 0, day)) {
            return BAD;
        }
        int act = now.acts.inForce(purpose, now.schools.shire[school], day);
        return act < 0 ? NONE : act;
    }

    public int holds(int purpose, int school, int age, int day) {
        if (!isCase(purpose, school, age, day)) {
            return BAD;
        }
        return now.purposeHolds(purpose, school, age, day) ? 1 : 0;
    }

    public int quarrel(int purpose, int school, int age, int day) {
        if (!isCase(purpose, school, age, day)) {
            return BAD;
        }
        int yes = now.firstThat(true, purpose, school, age, day);
        int no = now.firstThat(false, purpose, school, age, day);
        return yes < 0 || no < 0 ? NONE : 100 * yes + no;
    }

    // ---- days

    public int go(int n) {
        if (!within(n, 1, MOST_GO)) {
            return BAD;
        }
        if (now.day + n > LAST_DAY) {
            return NO_ROOM;
        }
        now.passDays(n, NO_AGE);
        return now.day;
    }

    public int of(int school, int what) {
        if (!now.schools.has(school) || !within(what, 0, SUMS - 1)) {
            return BAD;
        }
        return now.schools.sums[school * SUMS + what];
    }

    public int order(int school) {
        return now.schools.has(school) ? now.ordered(school, now.day, NO_AGE) : BAD;
    }

    public int look(int school, int day, int really) {
        if (!now.schools.has(school) || !within(day, 0, now.day - 1) || !within(really, 0, MOST_REALLY)) {
            return BAD;
        }
        if (now.looks.count >= MOST_LOOKS) {
            return NO_ROOM;
        }
        return now.looks.draw(school, day, really);
    }

    public int byHowMuch(int shire, int what) {
        if (!within(shire, 0, SHIRES - 1) || !within(what, 0, 2)) {
            return LOWER + BAD;
        }
        int many = 0;
        int sum = 0;
        int least = 0;
        int greatest = 0;
        for (int k = 0; k < now.looks.count; k++) {
            if (now.schools.shire[now.looks.school[k]] != shire) {
                continue;
            }
            int more = now.toldTooMany(k);
            sum += more;
            least = many == 0 ? more : Math.min(least, more);
            greatest = many == 0 ? more : Math.max(greatest, more);
            many++;
        }
        if (many == 0) {
            return LOWER + NONE;
        }
        return what == 0 ? sum : what == 1 ? least : greatest;
    }

    // ---- rounds, plans

    public int round(int dairy, int minute, int d, int i) {
        Shelf shelf = shelfAt(d);
        if (shelf == null || !now.dairies.has(dairy) || !within(minute, 0, MOST_MINUTE) || !within(i, -1, MOST_STOPS - 1)) {
            return BAD;
        }
        int refusal = byteRowRefusal(shelf);
        if (refusal != 0) {
            return refusal;
        }
        if (!search.takeStops(shelf, now.schools)) {
            return NO_PLACE;
        }
        if (!search.find(now.dairies.x[dairy], now.dairies.y[dairy], minute)) {
            return NONE;
        }
        return i < 0 ? search.bestWay : search.bestStop(i);
    }

    public int judge(int dairy, int minute, int d) {
        Shelf shelf = shelfAt(d);
        if (shelf == null || !now.dairies.has(dairy) || !within(minute, 0, MOST_MINUTE)) {
            return BAD;
        }
        int refusal = byteRowRefusal(shelf);
        return refusal != 0 ? refusal : now.firstWrongStop(dairy, minute, shelf);
    }

    public int bought(int dairy, int n) {
        if (!now.dairies.has(dairy) || !within(n, 1, MOST_BOUGHT_DAYS)) {
            return BAD;
        }
        if (now.day + n > LAST_DAY) {
            return NO_ROOM;
        }
        // Where nothing is unmet, each BOTTLE more is one more left at every moment and changes nothing else:
        // so one course with the most tells how many of them nobody needed.
        mind.copyFrom(now);
        mind.dairies.stock(dairy, MOST_BOUGHT);
        mind.passDays(n, NO_AGE);
        for (int s = 0; s < now.schools.count; s++) {
            int unmet = s * SUMS + UNMET;
            boolean ours = now.dairies.winner(now.schools.shire[s]) == dairy;
            if (ours && mind.schools.sums[unmet] != now.schools.sums[unmet]) {
                return NONE;
            }
        }
        return Math.max(0, MOST_BOUGHT - mind.dairies.lowest[dairy]);
    }

    public int parted(int n, int day, int order, int shire) {
        if (!within(n, 0, MOST_TOLD) || !within(day, now.day, LAST_DAY)) {
            return BAD;
        }
        if (!isShireOrder(order) || !within(shire, 0, SHIRES - 1)) {
            return BAD;
        }
        int left = n;
        for (int k = 0; k < SHIRES; k++) {
            int turn = digit(order, k);
            int gets = Math.min(left, now.orderedInShire(turn, day));
            if (turn == shire) {
                return gets;
            }
            left -= gets;
        }
        return 0;
    }

    public int away(int age, int n, int what) {
        if (!within(age, 0, AGES - 1) || !within(n, 1, MOST_GO) || !within(what, 0, 2)) {
            return LOWER + BAD;
        }
        if (now.day + n > LAST_DAY) {
            return LOWER + NO_ROOM;
        }
        int sum = what == 0 ? GIVEN : what == 1 ? PAID : GONE;
        mind.copyFrom(now);
        mind.passDays(n, NO_AGE);
        int with = mind.schools.all(sum);
        mind.copyFrom(now);
        mind.passDays(n, age);
        return with - mind.schools.all(sum);
    }

    public int beside(int d, int edge, int what) {
        Shelf shelf = shelfAt(d);
        if (shelf == null || !within(edge, 0, MOST_EDGE) || !within(what, 0, 1)) {
            return LOWER + BAD;
        }
        int refusal = byteRowRefusal(shelf);
        if (refusal != 0) {
            return LOWER + refusal;
        }
        int pairs = 0;
        int sum = 0;
        for (int one = 0; one < now.schools.count; one++) {
            for (int other = 0; other < now.schools.count; other++) {
                if (shelf.isAt(one, 1) && shelf.isAt(other, 0) && now.areLike(one, other, edge)) {
                    pairs++;
                    sum += now.schools.sums[one * SUMS + GIVEN] - now.schools.sums[other * SUMS + GIVEN];
                }
            }
        }
        return what == 0 ? sum : pairs;
    }

    // ---- the image, what is told

    public int image() {
        kept.copyFrom(now);
        hasImage = true;
        return now.day;
    }

    public int restore() {
        if (!hasImage) {
            return NOT_NOW;
        }
        now.copyFrom(kept);
        return now.day;
    }

    public int count(int what) {
        switch (what) {
            case 0: return now.schools.count;
            case 1: return now.dairies.count;
            case 2: return now.acts.count;
            case 3: return now.day;
            case 4: return now.looks.count;
            case 5: return now.dairies.allBottles();
            case 6: return now.schools.all(GONE);
            case 7: return now.schools.all(BURST);
            case 8: return now.heads.count;
            default: return BAD;
        }
    }

    // ---- shelves

    public int keep(int d, int what, int k, int n, int school) {
        Shelf shelf = shelfAt(d);
        if (shelf == null || !within(what, 0, 1)) {
            return BAD;
        }
        if (what == 0) {
            shelf.clear();
            return 0;
        }
        if (!within(k, 0, Crates.KINDS - 1) || !within(n, 0, MOST_BOTTLES) || !within(school, 0, MOST_SCHOOLS - 1)) {
            return BAD;
        }
        shelf.holdCrate(k, n, school);
        return 0;
    }

    public int row(int d, int sort, int n) {
        Shelf shelf = shelfAt(d);
        if (shelf == null || !within(sort, 0, Shelf.SORTS - 1) || n > MOST_ELEMENTS) {
            return BAD;
        }
        if (n < 0) {
            return BELOW_ZERO;
        }
        shelf.holdRow(sort, n);
        return 0;
    }

    public int put(int d, int i, int v) {
        Shelf shelf = shelfAt(d);
        if (shelf == null) {
            return BAD;
        }
        int refusal = rowRefusal(shelf);
        if (refusal != 0) {
            return refusal;
        }
        if (!shelf.hasPlace(i)) {
            return NO_PLACE;
        }
        shelf.write(i, v);
        return 0;
    }

    public long element(int d, int i) throws IllegalArgumentException, IllegalStateException {
        Shelf shelf = shelfAt(d);
        if (shelf == null) {
            throw new IllegalArgumentException("no such shelf");
        }
        if (rowRefusal(shelf) != 0 || !shelf.hasPlace(i)) {
            throw new IllegalStateException("no such place in a row");
        }
        return shelf.cells[i];
    }

    public int copy(int d, int i, int e, int j, int n) {
        Shelf from = shelfAt(d);
        Shelf to = shelfAt(e);
        if (from == null || to == null) {
            return BAD;
        }
        if (from.isEmpty() || to.isEmpty()) {
            return EMPTY;
        }
        if (!from.isRow() || !to.isRow() || from.sort != to.sort) {
            return OTHER_KIND;
        }
        if (!from.hasPlaces(i, n) || !to.hasPlaces(j, n)) {
            return NO_PLACE;
        }
        System.arraycopy(from.cells, i, to.cells, j, n);
        return n;
    }

    public int crate(int d, int what, int price) {
        Shelf shelf = shelfAt(d);
        if (shelf == null || !within(what, 0, 1) || !within(price, 0, MOST_PENCE)) {
            return BAD;
        }
        int refusal = crateRefusal(shelf);
        if (refusal != 0) {
            return refusal;
        }
        return what == 0 ? Crates.drunk(shelf.kind, shelf.bottles) : Crates.paid(shelf.kind, shelf.bottles, price);
    }

    public int toss(int d) {
        Shelf shelf = shelfAt(d);
        if (shelf == null) {
            return BAD;
        }
        int refusal = crateRefusal(shelf);
        if (refusal != 0) {
            return refusal;
        }
        if (!Crates.canFail(shelf.kind, shelf.bottles)) {
            return NO_FAILURE;
        }
        try {
            Crates.fail(shelf.kind);
        } catch (UnsupportedOperationException unmet) {
            return shelf.school + 100;
        } catch (IllegalArgumentException frozen) {
            return shelf.bottles;
        } catch (IllegalStateException other) {
            return shelf.school;
        }
        return NO_FAILURE;
    }

    // ---- what the calls share

    private Shelf shelfAt(int d) {
        return d >= 0 && d < shelves.length ? shelves[d] : null;
    }

    private static int rowRefusal(Shelf shelf) {
        if (shelf.isEmpty()) {
            return EMPTY;
        }
        return shelf.isRow() ? 0 : OTHER_KIND;
    }

    private static int byteRowRefusal(Shelf shelf) {
        int refusal = rowRefusal(shelf);
        return refusal == 0 && shelf.sort != Shelf.BYTES ? OTHER_KIND : refusal;
    }

    private static int crateRefusal(Shelf shelf) {
        if (shelf.isEmpty()) {
            return EMPTY;
        }
        return shelf.isRow() ? OTHER_KIND : 0;
    }

    private boolean isCase(int purpose, int school, int age, int day) {
        return within(purpose, 0, PURPOSES - 1) && now.schools.has(school)
                && within(age, 0, AGES - 1) && within(day, 0, LAST_DAY);
    }

    private static boolean isShireOrder(int order) {
        if (!within(order, 0, 255)) {
            return false;
        }
        int seen = 0;
        for (int k = 0; k < SHIRES; k++) {
            seen |= 1 << digit(order, k);
        }
        return seen == 15;
    }

    private static int digit(int order, int k) {
        return (order >> (2 * k)) & 3;
    }

    private static boolean within(int n, int least, int most) {
        return n >= least && n <= most;
    }

    private static boolean isSchoolDay(int day) {
        return day % 7 < 5;
    }

    private static int monthOf(int day) {
        return day / 30 % MONTHS;
    }

    private static int far(int x, int y, int otherX, int otherY) {
        return Math.abs(x - otherX) + Math.abs(y - otherY);
    }

    private static void copyAll(int[] from, int[] to) {
        System.arraycopy(from, 0, to, 0, Math.min(from.length, to.length));
    }

    /** All that THE IMAGE holds; plans are run through in a second one. */
    private static final class World {
        private static final int AGE_FIELD = 0;

        int day;
        final Schools schools = new Schools();
        final Dairies dairies = new Dairies();
        final HeadRows heads = new HeadRows();
        final ActBook acts = new ActBook();
        final Looks looks = new Looks();
        final int[] months = new int[MONTHS * MONTH_FACTS];
        private final int[] fields = new int[ActReader.FIELDS.length()];
        private final int[] stack = new int[MOST_ELEMENTS];
        private int cowsLeft;

        World() {
            for (int m = 0; m < MONTHS; m++) {
                months[m * MONTH_FACTS + COWS] = MOST_COWS;
            }
        }

        void copyFrom(World other) {
            day = other.day;
            schools.copyFrom(other.schools);
            dairies.copyFrom(other.dairies);
            heads.copyFrom(other.heads);
            acts.copyFrom(other.acts);
            looks.copyFrom(other.looks);
            copyAll(other.months, months);
        }

        int headsOfAll(int school, int onDay) {
            int sum = 0;
            for (int age = 0; age < AGES; age++) {
                sum += heads.counting(school, age, onDay, LAST_DAY);
            }
            return sum;
        }

        int toldTooMany(int look) {
            return headsOfAll(looks.school[look], looks.day[look]) - looks.really[look];
        }

        boolean areLike(int one, int other, int edge) {
            return schools.shire[one] == schools.shire[other]
                    && Math.abs(headsOfAll(one, day) - headsOfAll(other, day)) <= edge;
        }

        private int monthFact(int onDay, int fact) {
            return months[monthOf(onDay) * MONTH_FACTS + fact];
        }

        /** In the order of ActReader.FIELDS. */
        private void readFields(int school, int age, int onDay) {
            fields[AGE_FIELD] = age;
            fields[1] = schools.shire[school];
            fields[2] = monthOf(onDay);
            fields[3] = onDay % 7;
            fields[4] = onDay / 7;
            fields[5] = monthFact(onDay, HEAT);
            fields[6] = headsOfAll(school, onDay);
            fields[7] = schools.x[school];
            fields[8] = schools.y[school];
            fields[9] = school;
        }

        boolean purposeHolds(int purpose, int school, int age, int onDay) {
            int act = acts.inForce(purpose, schools.shire[school], onDay);
            if (act < 0) {
                return purpose == MAY_HAVE;
            }
            readFields(school, purpose == MAY_HAVE ? age : 0, onDay);
            return acts.meets(act, fields, stack);
        }

        /** The least ACT that could be in force and holds, or doesn't, as wanted; -1: none. */
        int firstThat(boolean wanted, int purpose, int school, int age, int onDay) {
            readFields(school, purpose == MAY_HAVE ? age : 0, onDay);
            for (int act = 0; act < acts.count; act++) {
                if (acts.couldBeInForce(act, purpose, schools.shire[school], onDay)
                        && acts.meets(act, fields, stack) == wanted) {
                    return act;
                }
            }
            return -1;
        }

        int ordered(int school, int onDay, int takenAge) {
            if (!isSchoolDay(onDay)) {
                return 0;
            }
            int act = acts.inForce(MAY_HAVE, schools.shire[school], onDay);
            readFields(school, 0, onDay);
            int sum = 0;
            for (int age = 0; age < AGES; age++) {
                fields[AGE_FIELD] = age;
                if (age != takenAge && (act < 0 || acts.meets(act, fields, stack))) {
                    sum += heads.counting(school, age, onDay, LAST_DAY);
                }
            }
            return sum;
        }

        int orderedInShire(int shire, int onDay) {
            int sum = 0;
            for (int s = 0; s < schools.count; s++) {
                if (schools.shire[s] == shire) {
                    sum += ordered(s, onDay, NO_AGE);
                }
            }
            return sum;
        }

        /** An AGE that is taken away (or NO_AGE) has no milk on these DAYS, whatever ACTS say. */
        void passDays(int n, int takenAge) {
            for (int k = 0; k < n; k++) {
                if (isSchoolDay(day)) {
                    passSchoolDay(takenAge);
                }
                day++;
            }
        }

        private void passSchoolDay(int takenAge) {
            cowsLeft = monthFact(day, COWS);
            dairies.openDay();
            for (int s = 0; s < schools.count; s++) {
                int order = ordered(s, day, takenAge);
                int dairy = dairies.winner(schools.shire[s]);
                int come = dairy < 0 ? 0 : dairies.send(dairy, Math.min(order, cowsLeft));
                cowsLeft -= come;
                schools.addTo(s, ORDER, order);
                schools.addTo(s, COME, come);
                schools.addTo(s, UNMET, order - come);
                int back = handOut(s, come, order - come);
                if (dairy >= 0) {
                    dairies.returning[dairy] += back;
                }
            }
            dairies.closeDay();
        }

        /** Answers how many the DAIRY gets again at the end of the DAY. */
        private int handOut(int s, int come, int unmet) {
            int burst = come * monthFact(day, COLD) / 100;
            boolean tooWarm = monthFact(day, HEAT) >= HOT_FROM && purposeHolds(HOT_IS_REFUSED, s, 0, day);
            int refused = tooWarm ? come - burst : 0;
            int given = come - burst - refused;
            int left = given * schools.leaves[s] / 100;
            int gone = given * schools.loses[s] / 100;
            schools.addTo(s, BURST, burst);
            schools.addTo(s, REFUSED, refused);
            schools.addTo(s, GIVEN, given);
            schools.addTo(s, LEFT, left);
            schools.addTo(s, BACK, given - gone);
            schools.addTo(s, GONE, gone);
            if (gone > 0 && purposeHolds(GONE_IS_OWED, s, 0, day)) {
                schools.addTo(s, OWED, gone);
            }
            int price = dairies.price(schools.shire[s]);
            schools.addTo(s, PAID, Crates.paid(Crates.THIRD, given - left, price)
                    + Crates.paid(Crates.OVER, left, price) + Crates.paid(Crates.WARM, refused, price)
                    + Crates.paid(Crates.FROZEN, burst, price) + Crates.paid(Crates.UNMET_ONE, unmet, price));
            return refused + given - gone;
        }

        /** The place in an order that is JUDGED wrong first. */
        int firstWrongStop(int dairy, int minute, Shelf row) {
            int x = dairies.x[dairy];
            int y = dairies.y[dairy];
            int time = minute;
            int seen = 0;
            for (int k = 0; k < row.size; k++) {
                int s = row.cells[k];
                if (!schools.has(s) || (seen >> s & 1) == 1) {
                    return k;
                }
                seen |= 1 << s;
                time += far(x, y, schools.x[s], schools.y[s]);
                x = schools.x[s];
                y = schools.y[s];
                if (time > schools.latest[s]) {
                    return k;
                }
            }
            return NONE;
        }
    }

    /** The SCHOOLS, and what each has had so far. */
    private static final class Schools {
        int count;
        final int[] shire = new int[MOST_SCHOOLS];
        final int[] x = new int[MOST_SCHOOLS];
        final int[] y = new int[MOST_SCHOOLS];
        final int[] leaves = new int[MOST_SCHOOLS];
        final int[] loses = new int[MOST_SCHOOLS];
        final int[] latest = new int[MOST_SCHOOLS];
        final int[] sums = new int[MOST_SCHOOLS * SUMS];

        boolean has(int school) {
            return school >= 0 && school < count;
        }

        /** The caller has seen that there is room. A RESTORE takes back whole rows, so that all behind count is 0. */
        int come(int itsShire, int told) {
            int s = count;
            shire[s] = itsShire;
            x[s] = told / 100;
            y[s] = told % 100;
            latest[s] = FIRST_LATEST;
            count++;
            return s;
        }

        void addTo(int school, int what, int n) {
            sums[school * SUMS + what] += n;
        }

        int all(int what) {
            int sum = 0;
            for (int s = 0; s < count; s++) {
                sum += sums[s * SUMS + what];
            }
            return sum;
        }

        void copyFrom(Schools other) {
            count = other.count;
            copyAll(other.shire, shire);
            copyAll(other.x, x);
            copyAll(other.y, y);
            copyAll(other.leaves, leaves);
            copyAll(other.loses, loses);
            copyAll(other.latest, latest);
            copyAll(other.sums, sums);
        }
    }

    /** The DAIRIES, their BIDS, and what is on its way on the DAY that goes by. */
    private static final class Dairies {
        int count;
        final int[] x = new int[MOST_DAIRIES];
        final int[] y = new int[MOST_DAIRIES];
        final int[] bottles = new int[MOST_DAIRIES];
        final int[] cap = new int[MOST_DAIRIES];
        final int[] bids = new int[MOST_DAIRIES * SHIRES];
        final int[] returning = new int[MOST_DAIRIES];
        final int[] lowest = new int[MOST_DAIRIES];
        private final int[] capLeft = new int[MOST_DAIRIES];

        boolean has(int dairy) {
            return dairy >= 0 && dairy < count;
        }

        /** The caller has seen that there is room. */
        int come(int told, int itsBottles, int itsCap) {
            int d = count;
            x[d] = told / 100;
            y[d] = told % 100;
            bottles[d] = itsBottles;
            cap[d] = itsCap;
            for (int shire = 0; shire < SHIRES; shire++) {
                bids[d * SHIRES + shire] = NO_BID;
            }
            count++;
            return d;
        }

        /** -1: none. */
        int winner(int shire) {
            int best = -1;
            int bestBid = 0;
            for (int d = 0; d < count; d++) {
                int bid = bids[d * SHIRES + shire];
                if (bid != NO_BID && (best < 0 || bid < bestBid)) {
                    best = d;
                    bestBid = bid;
                }
            }
            return best;
        }

        int price(int shire) {
            int d = winner(shire);
            return d < 0 ? 0 : bids[d * SHIRES + shire];
        }

        int allBottles() {
            int sum = 0;
            for (int d = 0; d < count; d++) {
                sum += bottles[d];
            }
            return sum;
        }

        /** From here on its lowest stock is watched. */
        void stock(int dairy, int more) {
            bottles[dairy] += more;
            lowest[dairy] = bottles[dairy];
        }

        void openDay() {
            for (int d = 0; d < count; d++) {
                capLeft[d] = cap[d];
                returning[d] = 0;
            }
        }

        int send(int dairy, int wanted) {
            int come = Math.min(wanted, Math.min(capLeft[dairy], bottles[dairy]));
            capLeft[dairy] -= come;
            bottles[dairy] -= come;
            lowest[dairy] = Math.min(lowest[dairy], bottles[dairy]);
            return come;
        }

        void closeDay() {
            for (int d = 0; d < count; d++) {
                bottles[d] += returning[d];
            }
        }

        void copyFrom(Dairies other) {
            count = other.count;
            copyAll(other.x, x);
            copyAll(other.y, y);
            copyAll(other.bottles, bottles);
            copyAll(other.cap, cap);
            copyAll(other.bids, bids);
        }
    }

    /** The ROWS by which HEADS were TOLD, in their order. */
    private static final class HeadRows {
        int count;
        private final int[] age = new int[MOST_HEAD_ROWS];
        private final int[] toldOn = new int[MOST_HEAD_ROWS];
        private final int[] from = new int[MOST_HEAD_ROWS];
        private final int[] many = new int[MOST_HEAD_ROWS * MOST_SCHOOLS];

        /** The caller has seen that there is room. */
        int tell(int itsAge, Shelf row, int day) {
            int earlier = lastOf(itsAge);
            int thursday = day + (3 - day % 7 + 7) % 7;
            age[count] = itsAge;
            toldOn[count] = day;
            from[count] = thursday + 4;
            for (int s = 0; s < MOST_SCHOOLS; s++) {
                // SCHOOLS that haven't come yet are told, too: they may come before these HEADS count.
                int before = earlier < 0 ? 0 : many[earlier * MOST_SCHOOLS + s];
                boolean missing = s >= row.size || row.cells[s] == row.leastOfSort();
                many[count * MOST_SCHOOLS + s] = missing ? before : Math.max(0, Math.min(MOST_HEADS, row.cells[s]));
            }
            count++;
            return thursday + 4;
        }

        private int lastOf(int itsAge) {
            for (int r = count - 1; r >= 0; r--) {
                if (age[r] == itsAge) {
                    return r;
                }
            }
            return -1;
        }

        int counting(int school, int itsAge, int day, int known) {
            for (int r = count - 1; r >= 0; r--) {
                if (age[r] == itsAge && toldOn[r] <= known && from[r] <= day) {
                    return many[r * MOST_SCHOOLS + school];
                }
            }
            return 0;
        }

        void copyFrom(HeadRows other) {
            count = other.count;
            copyAll(other.age, age);
            copyAll(other.toldOn, toldOn);
            copyAll(other.from, from);
            copyAll(other.many, many);
        }
    }

    /** The ACTS by their numbers. */
    private static final class ActBook {
        int count;
        final Act[] told = new Act[MOST_ACTS];
        final int[] struck = new int[MOST_ACTS];

        boolean has(int act) {
            return act >= 0 && act < count;
        }

        /** The caller has seen that there is room. */
        int tell(Act act) {
            told[count] = act;
            struck[count] = NEVER;
            count++;
            return count - 1;
        }

        boolean meets(int act, int[] fields, int[] stack) {
            Act it = has(act) ? told[act] : null;
            return it != null && it.isMet(fields, stack);
        }

        boolean couldBeInForce(int act, int purpose, int shire, int day) {
            Act it = has(act) ? told[act] : null;
            return it != null && it.purpose == purpose && (it.shire == ALL_SHIRES || it.shire == shire)
                    && it.from <= day && day < struck[act];
        }

        /** -1: none. */
        int inForce(int purpose, int shire, int day) {
            int best = -1;
            int latest = 0;
            for (int act = 0; act < count; act++) {
                Act it = told[act];
                if (it != null && couldBeInForce(act, purpose, shire, day) && it.from >= latest) {
                    best = act;
                    latest = it.from;
                }
            }
            return best;
        }

        /** An ACT never changes, so that two books may hold the same one. */
        void copyFrom(ActBook other) {
            count = other.count;
            for (int act = 0; act < MOST_ACTS; act++) {
                told[act] = other.told[act];
            }
            copyAll(other.struck, struck);
        }
    }

    /** One ACT, its text as steps for a stack: numbers, FIELDS, and below 0 the signs. */
    private static final class Act {
        final int purpose;
        final int shire;
        final int from;
        private final int[] steps;

        Act(int purpose, int shire, int from, int[] steps, int length) {
            this.purpose = purpose;
            this.shire = shire;
            this.from = from;
            int size = Math.max(0, Math.min(length, steps.length));
            this.steps = new int[size];
            System.arraycopy(steps, 0, this.steps, 0, size);
        }

        boolean isMet(int[] fields, int[] stack) {
            int top = 0;
            for (int k = 0; k < steps.length; k++) {
                int step = steps[k];
                if (step >= 0 && top < stack.length) {
                    stack[top] = valueOf(step, fields);
                    top++;
                } else if (step == -'!' && top >= 1) {
                    stack[top - 1] = 1 - stack[top - 1];
                } else if (top >= 2) {
                    top--;
                    stack[top - 1] = joined(-step, stack[top - 1], stack[top]);
                }
            }
            return top == 1 && stack[0] == 1;
        }

        private static int valueOf(int step, int[] fields) {
            int field = step - ActReader.FIRST_FIELD;
            return field >= 0 && field < fields.length ? fields[field] : step;
        }

        private static int joined(int sign, int a, int b) {
            switch (sign) {
                case '+': return a + b;
                case '-': return a - b;
                case '<': return a < b ? 1 : 0;
                case '>': return a > b ? 1 : 0;
                case '=': return a == b ? 1 : 0;
                case '&': return a & b;
                default: return a | b;
            }
        }
    }

    /** Reads a text as an ACT: one reader for the FAULT and for the ACT, so that they agree. */
    private static final class ActReader {
        static final String FIELDS = "asmdwhnxyc";
        /** Above all NUMBERS. */
        static final int FIRST_FIELD = 10000;
        private static final String PURPOSE_SIGNS = "ero";
        private static final int DEEPEST = 8;
        /** No byte. */
        private static final int END = -1000;

        private final int[] steps = new int[MOST_ELEMENTS];
        private int length;
        private int purpose;
        private int[] text = new int[0];
        private int size;
        private int at;
        private int fault;

        /** -1: the text is an ACT. */
        int firstFault(Shelf row) {
            text = row.cells;
            size = Math.min(row.size, text.length);
            at = 0;
            fault = -1;
            length = 0;
            purpose = placeOf(here(), PURPOSE_SIGNS);
            if (purpose < 0) {
                return 0;
            }
            at++;
            readSign(':');
            readOr(0);
            if (fault < 0 && here() == 'u') {
                at++;
                readOr(0);
                addStep(-'!');
                addStep(-'&');
            }
            return fault < 0 && at < size ? at : fault;
        }

        Act toAct(int shire, int day) {
            return new Act(purpose, shire, day, steps, length);
        }

        private int here() {
            return at >= 0 && at < size ? text[at] : END;
        }

        private static int placeOf(int sign, String signs) {
            return sign < 0 ? -1 : signs.indexOf((char) sign);
        }

        /** Only the first FAULT counts. */
        private void fail() {
            if (fault < 0) {
                fault = at;
            }
        }

        private void addStep(int step) {
            if (length < steps.length) {
                steps[length] = step;
                length++;
            }
        }

        private void readSign(int sign) {
            if (fault < 0 && here() == sign) {
                at++;
            } else {
                fail();
            }
        }

        private void readOr(int depth) {
            readAnd(depth);
            for (int turn = 0; turn < size && fault < 0 && here() == '|'; turn++) {
                at++;
                readAnd(depth);
                addStep(-'|');
            }
        }

        private void readAnd(int depth) {
            readTest(depth);
            for (int turn = 0; turn < size && fault < 0 && here() == '&'; turn++) {
                at++;
                readTest(depth);
                addStep(-'&');
            }
        }

        private void readTest(int depth) {
            boolean not = false;
            for (int turn = 0; turn < size && fault < 0 && here() == '!'; turn++) {
                at++;
                not = !not;
            }
            if (here() == '(' && fault < 0) {
                readBracket(depth);
            } else {
                readComparison();
            }
            if (not) {
                addStep(-'!');
            }
        }

        private void readBracket(int depth) {
            if (depth >= DEEPEST) {
                fail();
                return;
            }
            at++;
            readOr(depth + 1);
            readSign(')');
        }

        private void readComparison() {
            readSum();
            int sign = here();
            if (fault >= 0 || placeOf(sign, "<>=") < 0) {
                fail();
                return;
            }
            at++;
            readSum();
            addStep(-sign);
        }

        private void readSum() {
            readAtom();
            for (int turn = 0; turn < size && fault < 0 && placeOf(here(), "+-") >= 0; turn++) {
                int sign = here();
                at++;
                readAtom();
                addStep(-sign);
            }
        }

        private void readAtom() {
            if (fault >= 0) {
                return;
            }
            int field = placeOf(here(), FIELDS);
            if (isDigit(here())) {
                readNumber();
            } else if (field >= 0) {
                addStep(FIRST_FIELD + field);
                at++;
            } else {
                fail();
            }
        }

        private void readNumber() {
            int most = here() == '0' ? 1 : 4;
            int n = 0;
            for (int k = 0; k < most && isDigit(here()); k++) {
                n = n * 10 + here() - '0';
                at++;
            }
            addStep(n);
        }

        private static boolean isDigit(int sign) {
            return sign >= '0' && sign <= '9';
        }
    }

    /** The LOOKS in the order in which they were drawn. */
    private static final class Looks {
        int count;
        final int[] school = new int[MOST_LOOKS];
        final int[] day = new int[MOST_LOOKS];
        final int[] really = new int[MOST_LOOKS];

        /** The caller has seen that there is room. */
        int draw(int itsSchool, int itsDay, int many) {
            school[count] = itsSchool;
            day[count] = itsDay;
            really[count] = many;
            count++;
            return count;
        }

        void copyFrom(Looks other) {
            count = other.count;
            copyAll(other.school, school);
            copyAll(other.day, day);
            copyAll(other.really, really);
        }
    }

    /** Looks for THE ROUND. */
    private static final class RoundSearch {
        private static final int FARTHER_THAN_ANY = 1000000;

        int bestWay;
        private final int[] best = new int[MOST_STOPS];
        private final int[] trial = new int[MOST_STOPS];
        private final int[] stops = new int[MOST_STOPS];
        private final int[] stopX = new int[MOST_STOPS];
        private final int[] stopY = new int[MOST_STOPS];
        private final int[] latest = new int[MOST_STOPS];
        private int count;
        private int used;
        private int minute;
        private int homeX;
        private int homeY;

        /** Takes them by their numbers, so that of several orders the first by numbers is met first. */
        boolean takeStops(Shelf row, Schools schools) {
            count = 0;
            if (row.size < 1 || row.size > MOST_STOPS) {
                return false;
            }
            int told = 0;
            for (int k = 0; k < row.size; k++) {
                int s = row.cells[k];
                if (!schools.has(s) || (told >> s & 1) == 1) {
                    return false;
                }
                told |= 1 << s;
            }
            for (int s = 0; s < schools.count && count < MOST_STOPS; s++) {
                if ((told >> s & 1) == 1) {
                    stops[count] = s;
                    stopX[count] = schools.x[s];
                    stopY[count] = schools.y[s];
                    latest[count] = schools.latest[s];
                    count++;
                }
            }
            return true;
        }

        boolean find(int fromX, int fromY, int fromMinute) {
            homeX = fromX;
            homeY = fromY;
            minute = fromMinute;
            used = 0;
            bestWay = FARTHER_THAN_ANY;
            goOn(0, homeX, homeY, 0);
            return bestWay < FARTHER_THAN_ANY;
        }

        int bestStop(int i) {
            return i >= 0 && i < count ? best[i] : NONE;
        }

        private void goOn(int depth, int x, int y, int way) {
            if (depth >= count) {
                bestWay = way + far(x, y, homeX, homeY);
                copyAll(trial, best);
                return;
            }
            for (int k = 0; k < count; k++) {
                if ((used >> k & 1) == 0) {
                    visit(k, depth, x, y, way);
                }
            }
        }

        private void visit(int k, int depth, int x, int y, int way) {
            int reached = way + far(x, y, stopX[k], stopY[k]);
            // No way home is shorter than the straight one: what isn't shorter here won't be shorter at its end.
            int atLeast = reached + far(stopX[k], stopY[k], homeX, homeY);
            if (minute + reached > latest[k] || atLeast >= bestWay) {
                return;
            }
            trial[depth] = stops[k];
            used |= 1 << k;
            goOn(depth + 1, stopX[k], stopY[k], reached);
            used &= ~(1 << k);
        }
    }

    /** What a SHELF holds. No call tells the DAY of a CRATE, so it isn't kept. */
    private static final class Shelf {
        static final int SORTS = 3;
        static final int BYTES = 0;
        private static final int SHORTS = 1;
        private static final int NOTHING = 0;
        private static final int CRATE = 1;
        private static final int ROW = 2;

        private int held;
        int kind;
        int bottles;
        int school;
        int sort;
        int size;
        final int[] cells = new int[MOST_ELEMENTS];

        boolean isEmpty() {
            return held == NOTHING;
        }

        boolean isRow() {
            return held == ROW;
        }

        void clear() {
            held = NOTHING;
        }

        void holdCrate(int itsKind, int many, int itsSchool) {
            held = CRATE;
            kind = itsKind;
            bottles = many;
            school = itsSchool;
        }

        void holdRow(int itsSort, int itsSize) {
            held = ROW;
            sort = itsSort;
            size = itsSize;
            for (int i = 0; i < cells.length; i++) {
                cells[i] = 0;
            }
        }

        boolean hasPlace(int i) {
            return i >= 0 && i < size;
        }

        /** As long, because i and n may be as great as an int can be. */
        boolean hasPlaces(int i, int n) {
            return i >= 0 && n >= 0 && (long) i + n <= size;
        }

        boolean isAt(int i, int v) {
            return hasPlace(i) && cells[i] == v;
        }

        void write(int i, int v) {
            cells[i] = sort == BYTES ? (byte) v : sort == SHORTS ? (short) v : v;
        }

        int leastOfSort() {
            return sort == BYTES ? -128 : sort == SHORTS ? -32768 : -2147483648;
        }
    }

    /** What CRATES of each KIND are worth. */
    private static final class Crates {
        static final int KINDS = 7;
        static final int THIRD = 1;
        static final int OVER = 3;
        static final int WARM = 4;
        static final int FROZEN = 5;
        static final int UNMET_ONE = 6;
        private static final int MILK = 0;
        private static final int DRY = 2;

        static int drunk(int kind, int bottles) {
            switch (kind) {
                case MILK: return 3 * bottles;
                case THIRD: return bottles;
                case DRY: return 2 * bottles;
                case OVER: return bottles / 2;
                default: return 0;
            }
        }

        static int paid(int kind, int bottles, int price) {
            int milk = bottles * price / 100;
            int third = bottles > 0 ? milk + 1 : milk;
            switch (kind) {
                case MILK: return milk;
                case DRY: return milk / 2;
                case WARM: return third / 2;
                case FROZEN: return third / 2;
                case UNMET_ONE: return third > 0 ? third - 1 : third;
                default: return third;
            }
        }

        static boolean canFail(int kind, int bottles) {
            return kind != DRY && bottles > 0;
        }

        /** Always throws: each of the three kinds of FAILURE by an exception of its own. */
        static void fail(int kind) {
            if (kind == UNMET_ONE) {
                throw new UnsupportedOperationException("unmet");
            }
            if (kind == FROZEN) {
                throw new IllegalArgumentException("frozen");
            }
            throw new IllegalStateException("milk");
        }
    }
}
