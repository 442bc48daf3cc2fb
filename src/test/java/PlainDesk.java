import java.util.ArrayList;
import java.util.List;

/**
 * The document written a second time, with no thought of room or speed: lists of records, copies of all, every number
 * of bottles tried, every order of a round, texts taken apart anew each time. It shares nothing with MilkDesk.
 */
final class PlainDesk {
    private static final class School {
        int number;
        int shire;
        int x;
        int y;
        int leaves;
        int loses;
        int latest = 660;
        int[] sums = new int[11];

        School copied() {
            School s = new School();
            s.number = number;
            s.shire = shire;
            s.x = x;
            s.y = y;
            s.leaves = leaves;
            s.loses = loses;
            s.latest = latest;
            s.sums = sums.clone();
            return s;
        }
    }

    private static final class Dairy {
        int x;
        int y;
        int bottles;
        int cap;
        Integer[] bids = new Integer[4];

        Dairy copied() {
            Dairy d = new Dairy();
            d.x = x;
            d.y = y;
            d.bottles = bottles;
            d.cap = cap;
            d.bids = bids.clone();
            return d;
        }
    }

    private record Told(int age, int toldOn, int from, List<Integer> numbers) { }

    private record Look(int school, int day, int really) { }

    private record Act(String text, int shire, int from, Integer struck) { }

    private record Crate(int kind, int bottles, int school) { }

    private static final class World {
        int day;
        List<School> schools = new ArrayList<>();
        List<Dairy> dairies = new ArrayList<>();
        List<Told> told = new ArrayList<>();
        List<Act> acts = new ArrayList<>();
        List<Look> looks = new ArrayList<>();
        int[] cold = new int[12];
        int[] heat = new int[12];
        int[] cows = new int[12];

        World copied() {
            World w = new World();
            w.day = day;
            for (School s : schools) {
                w.schools.add(s.copied());
            }
            for (Dairy d : dairies) {
                w.dairies.add(d.copied());
            }
            w.told.addAll(told);
            w.acts.addAll(acts);
            w.looks.addAll(looks);
            w.cold = cold.clone();
            w.heat = heat.clone();
            w.cows = cows.clone();
            return w;
        }
    }

    /** A row is a List of Integers with its sort ahead, a crate a Crate. */
    private record Row(int sort, List<Integer> elements) { }

    private World w = new World();
    private World image;
    private final Object[] shelves = new Object[8];

    PlainDesk() {
        for (int m = 0; m < 12; m++) {
            w.cows[m] = 99999;
        }
    }

    private static boolean out(int n, int a, int b) {
        return n < a || n > b;
    }

    private boolean noSchool(int s) {
        return out(s, 0, w.schools.size() - 1);
    }

    private boolean noDairy(int d) {
        return out(d, 0, w.dairies.size() - 1);
    }

    private boolean noShelf(int d) {
        return out(d, 0, 7);
    }

    int school(int shire, int told) {
        if (out(shire, 0, 3) || out(told, 0, 9999)) {
            return -1;
        }
        if (w.schools.size() == 12) {
            return -2;
        }
        School s = new School();
        s.number = w.schools.size();
        s.shire = shire;
        s.x = told / 100;
        s.y = told % 100;
        w.schools.add(s);
        return s.number;
    }

    int set(int school, int what, int n) {
        if (noSchool(school) || out(what, 0, 2) || out(n, 0, what == 2 ? 999 : 100)) {
            return -1;
        }
        School s = w.schools.get(school);
        int was;
        if (what == 0) {
            was = s.leaves;
            s.leaves = n;
        } else if (what == 1) {
            was = s.loses;
            s.loses = n;
        } else {
            was = s.latest;
            s.latest = n;
        }
        return was;
    }

    int dairy(int told, int bottles, int cap) {
        if (out(told, 0, 9999) || out(bottles, 0, 9999) || out(cap, 1, 9999)) {
            return -1;
        }
        if (w.dairies.size() == 5) {
            return -2;
        }
        Dairy d = new Dairy();
        d.x = told / 100;
        d.y = told % 100;
        d.bottles = bottles;
        d.cap = cap;
        w.dairies.add(d);
        return w.dairies.size() - 1;
    }

    int bid(int dairy, int shire, int pence) {
        if (noDairy(dairy) || out(shire, 0, 3) || out(pence, -1, 999)) {
            return -1;
        }
        Integer[] bids = w.dairies.get(dairy).bids;
        Integer was = bids[shire];
        bids[shire] = pence == -1 ? null : Integer.valueOf(pence);
        return was == null ? -4 : was;
    }

    int won(int shire) {
        if (out(shire, 0, 3)) {
            return -1;
        }
        for (int pence = 0; pence <= 999; pence++) {
            for (int d = 0; d < w.dairies.size(); d++) {
                Integer bid = w.dairies.get(d).bids[shire];
                if (bid != null && bid == pence) {
                    return d;
                }
            }
        }
        return -4;
    }

    int bottles(int dairy) {
        return noDairy(dairy) ? -1 : w.dairies.get(dairy).bottles;
    }

    int month(int month, int what, int n) {
        if (out(month, 0, 11) || out(what, 0, 2) || out(n, 0, what == 0 ? 100 : what == 1 ? 99 : 99999)) {
            return -1;
        }
        int[] of = what == 0 ? w.cold : what == 1 ? w.heat : w.cows;
        int was = of[month];
        of[month] = n;
        return was;
    }

    int heads(int age, int d) {
        if (out(age, 0, 2) || noShelf(d)) {
            return -1;
        }
        if (w.told.size() == 16) {
            return -2;
        }
        if (shelves[d] == null) {
            return -11;
        }
        if (!(shelves[d] instanceof Row row)) {
            return -12;
        }
        int least = row.sort == 0 ? Byte.MIN_VALUE : row.sort == 1 ? Short.MIN_VALUE : Integer.MIN_VALUE;
        List<Integer> numbers = new ArrayList<>();
        for (int n : row.elements) {
            numbers.add(n == least ? null : Integer.valueOf(n < 0 ? 0 : n > 200 ? 200 : n));
        }
        int from = w.day;
        while (from % 7 != 3) {
            from++;
        }
        from++;
        while (from % 7 != 0) {
            from++;
        }
        w.told.add(new Told(age, w.day, from, numbers));
        return from;
    }

    int head(int school, int age, int day, int known) {
        if (noSchool(school) || out(age, 0, 2) || out(day, 0, 400) || out(known, 0, 400)) {
            return -1;
        }
        return headsOf(w, school, age, day, known);
    }

    private static int headsOf(World w, int school, int age, int day, int known) {
        int counts = -1;
        for (int r = 0; r < w.told.size(); r++) {
            Told t = w.told.get(r);
            if (t.age == age && t.toldOn <= known && t.from <= day) {
                counts = r;
            }
        }
        for (int r = counts; r >= 0; r--) {
            Told t = w.told.get(r);
            if (t.age == age && school < t.numbers.size() && t.numbers.get(school) != null) {
                return t.numbers.get(school);
            }
        }
        return 0;
    }

    private static int headsOf(World w, int school, int day) {
        return headsOf(w, school, 0, day, 400) + headsOf(w, school, 1, day, 400) + headsOf(w, school, 2, day, 400);
    }

    // ---- acts: the FAULT by a machine of states, the meaning by cutting the text at its weakest signs

    /** -4: none. */
    static int faultOf(List<Integer> bytes) {
        String state = "purpose";
        int open = 0;
        int digits = 0;
        boolean zero = false;
        boolean right = false;
        boolean unless = false;
        for (int at = 0; at < bytes.size(); at++) {
            int b = bytes.get(at);
            char c = b < 0 ? '?' : (char) b;
            boolean digit = c >= '0' && c <= '9';
            if (state.equals("purpose")) {
                if ("ero".indexOf(c) < 0) {
                    return at;
                }
                state = "colon";
            } else if (state.equals("colon")) {
                if (c != ':') {
                    return at;
                }
                state = "test";
            } else if ((state.equals("test") || state.equals("atom")) && (digit || "asmdwhnxyc".indexOf(c) >= 0)) {
                state = "behind";
                digits = digit ? 1 : 0;
                zero = c == '0';
            } else if (state.equals("test") && c == '!') {
                state = "test";
            } else if (state.equals("test") && c == '(' && open < 8) {
                open++;
            } else if (state.equals("behind") && digit && digits > 0 && digits < 4 && !zero) {
                digits++;
            } else if (state.equals("behind") && (c == '+' || c == '-')) {
                state = "atom";
            } else if (state.equals("behind") && !right && (c == '<' || c == '>' || c == '=')) {
                right = true;
                state = "atom";
            } else if ((state.equals("behind") && right || state.equals("closed")) && (c == '&' || c == '|')) {
                right = false;
                state = "test";
            } else if ((state.equals("behind") && right || state.equals("closed")) && c == ')' && open > 0) {
                open--;
                state = "closed";
            } else if ((state.equals("behind") && right || state.equals("closed")) && c == 'u' && open == 0 && !unless) {
                unless = true;
                right = false;
                state = "test";
            } else {
                return at;
            }
        }
        boolean whole = (state.equals("behind") && right || state.equals("closed")) && open == 0;
        return whole ? -4 : bytes.size();
    }

    int fault(int d) {
        if (noShelf(d)) {
            return -1;
        }
        if (shelves[d] == null) {
            return -11;
        }
        if (!(shelves[d] instanceof Row row) || row.sort != 0) {
            return -12;
        }
        return faultOf(row.elements);
    }

    int act(int d, int shire, int day) {
        if (noShelf(d) || out(shire, -1, 3) || out(day, w.day, 400)) {
            return -1;
        }
        if (w.acts.size() == 16) {
            return -2;
        }
        int fault = fault(d);
        if (fault == -11 || fault == -12) {
            return fault;
        }
        if (fault != -4) {
            return -100 - fault;
        }
        StringBuilder text = new StringBuilder();
        for (int b : ((Row) shelves[d]).elements) {
            text.append((char) b);
        }
        w.acts.add(new Act(text.toString(), shire, day, null));
        return w.acts.size() - 1;
    }

    int strike(int act, int day) {
        if (out(act, 0, w.acts.size() - 1) || out(day, w.day, 400)) {
            return -1;
        }
        Act a = w.acts.get(act);
        if (a.struck != null) {
            return -3;
        }
        w.acts.set(act, new Act(a.text, a.shire, a.from, day));
        return 1;
    }

    private record Case(World w, School s, int age, int day) { }

    /** The last place of one of these signs that stands in no brackets. */
    private static int lastOpen(String t, String signs) {
        int depth = 0;
        for (int k = t.length() - 1; k >= 0; k--) {
            char c = t.charAt(k);
            depth += c == ')' ? 1 : c == '(' ? -1 : 0;
            if (depth == 0 && signs.indexOf(c) >= 0) {
                return k;
            }
        }
        return -1;
    }

    private static boolean means(String t, Case c) {
        int k = lastOpen(t, "|");
        if (k >= 0) {
            return means(t.substring(0, k), c) | means(t.substring(k + 1), c);
        }
        k = lastOpen(t, "&");
        if (k >= 0) {
            return means(t.substring(0, k), c) & means(t.substring(k + 1), c);
        }
        if (t.charAt(0) == '!') {
            return !means(t.substring(1), c);
        }
        if (t.charAt(0) == '(') {
            return means(t.substring(1, t.length() - 1), c);
        }
        k = lastOpen(t, "<>=");
        int a = sum(t.substring(0, k), c);
        int b = sum(t.substring(k + 1), c);
        return t.charAt(k) == '<' ? a < b : t.charAt(k) == '>' ? a > b : a == b;
    }

    private static int sum(String t, Case c) {
        int k = lastOpen(t, "+-");
        if (k >= 0) {
            int b = sum(t.substring(k + 1), c);
            return sum(t.substring(0, k), c) + (t.charAt(k) == '+' ? b : -b);
        }
        switch (t.charAt(0)) {
            case 'a': return c.age;
            case 's': return c.s.shire;
            case 'm': return c.day / 30 % 12;
            case 'd': return c.day % 7;
            case 'w': return c.day / 7;
            case 'h': return c.w.heat[c.day / 30 % 12];
            case 'n': return headsOf(c.w, c.s.number, c.day);
            case 'x': return c.s.x;
            case 'y': return c.s.y;
            case 'c': return c.s.number;
            default: return Integer.parseInt(t);
        }
    }

    private static boolean actHolds(Act a, World w, int school, int age, int day) {
        String body = a.text.substring(2);
        int u = body.indexOf('u');
        Case c = new Case(w, w.schools.get(school), a.text.charAt(0) == 'e' ? age : 0, day);
        boolean first = means(u < 0 ? body : body.substring(0, u), c);
        return u < 0 ? first : first && !means(body.substring(u + 1), c);
    }

    private static boolean canBe(Act a, World w, int purpose, int school, int day) {
        return a.text.charAt(0) == "ero".charAt(purpose) && (a.shire == -1 || a.shire == w.schools.get(school).shire)
                && a.from <= day && (a.struck == null || day < a.struck);
    }

    private static int forceIn(World w, int purpose, int school, int day) {
        for (int from = day; from >= 0; from--) {
            for (int k = w.acts.size() - 1; k >= 0; k--) {
                if (canBe(w.acts.get(k), w, purpose, school, day) && w.acts.get(k).from == from) {
                    return k;
                }
            }
        }
        return -4;
    }

    private static boolean holdsIn(World w, int purpose, int school, int age, int day) {
        int act = forceIn(w, purpose, school, day);
        return act < 0 ? purpose == 0 : actHolds(w.acts.get(act), w, school, age, day);
    }

    int force(int purpose, int school, int day) {
        if (out(purpose, 0, 2) || noSchool(school) || out(day, 0, 400)) {
            return -1;
        }
        return forceIn(w, purpose, school, day);
    }

    int holds(int purpose, int school, int age, int day) {
        if (out(purpose, 0, 2) || noSchool(school) || out(age, 0, 2) || out(day, 0, 400)) {
            return -1;
        }
        return holdsIn(w, purpose, school, age, day) ? 1 : 0;
    }

    int quarrel(int purpose, int school, int age, int day) {
        if (out(purpose, 0, 2) || noSchool(school) || out(age, 0, 2) || out(day, 0, 400)) {
            return -1;
        }
        List<Integer> yes = new ArrayList<>();
        List<Integer> no = new ArrayList<>();
        for (int k = 0; k < w.acts.size(); k++) {
            if (canBe(w.acts.get(k), w, purpose, school, day)) {
                (actHolds(w.acts.get(k), w, school, age, day) ? yes : no).add(k);
            }
        }
        return yes.isEmpty() || no.isEmpty() ? -4 : 100 * yes.get(0) + no.get(0);
    }

    // ---- days

    private static int winnerIn(World w, int shire) {
        int best = -1;
        for (int d = w.dairies.size() - 1; d >= 0; d--) {
            Integer bid = w.dairies.get(d).bids[shire];
            if (bid != null && (best < 0 || bid <= w.dairies.get(best).bids[shire])) {
                best = d;
            }
        }
        return best;
    }

    private static int orderIn(World w, int school, int day, int without) {
        int sum = 0;
        for (int age = 0; age < 3; age++) {
            if (day % 7 <= 4 && age != without && holdsIn(w, 0, school, age, day)) {
                sum += headsOf(w, school, age, day, 400);
            }
        }
        return sum;
    }

    private static int third(int n, int price) {
        return n * price / 100 + (n > 0 ? 1 : 0);
    }

    /** Answers the UNMET of each SCHOOL on this DAY. */
    private static int[] passDay(World w, int without) {
        int[] unmet = new int[12];
        int[] capLeft = new int[5];
        int[] again = new int[5];
        for (int d = 0; d < w.dairies.size(); d++) {
            capLeft[d] = w.dairies.get(d).cap;
        }
        int month = w.day / 30 % 12;
        int cows = w.cows[month];
        for (School s : w.schools) {
            if (w.day % 7 > 4) {
                break;
            }
            int order = orderIn(w, s.number, w.day, without);
            int d = winnerIn(w, s.shire);
            int price = d < 0 ? 0 : w.dairies.get(d).bids[s.shire];
            int come = 0;
            if (d >= 0) {
                come = Math.min(Math.min(order, cows), Math.min(capLeft[d], w.dairies.get(d).bottles));
                cows -= come;
                capLeft[d] -= come;
                w.dairies.get(d).bottles -= come;
            }
            int burst = come * w.cold[month] / 100;
            boolean refuse = w.heat[month] >= 20 && holdsIn(w, 1, s.number, 0, w.day);
            int refused = refuse ? come - burst : 0;
            int given = refuse ? 0 : come - burst;
            int left = given * s.leaves / 100;
            int gone = given * s.loses / 100;
            int back = given - gone;
            if (d >= 0) {
                again[d] += refused + back;
            }
            int owed = holdsIn(w, 2, s.number, 0, w.day) ? gone : 0;
            int paid = third(given - left, price) + third(left, price) + third(refused, price) / 2
                    + third(burst, price) / 2 + Math.max(0, third(order - come, price) - 1);
            int[] more = {order, come, order - come, burst, refused, given, left, back, gone, owed, paid};
            for (int k = 0; k < 11; k++) {
                s.sums[k] += more[k];
            }
            unmet[s.number] = order - come;
        }
        for (int d = 0; d < w.dairies.size(); d++) {
            w.dairies.get(d).bottles += again[d];
        }
        w.day++;
        return unmet;
    }

    int go(int n) {
        if (out(n, 1, 60)) {
            return -1;
        }
        if (w.day + n > 400) {
            return -2;
        }
        for (int k = 0; k < n; k++) {
            passDay(w, -1);
        }
        return w.day;
    }

    int of(int school, int what) {
        return noSchool(school) || out(what, 0, 10) ? -1 : w.schools.get(school).sums[what];
    }

    int order(int school) {
        return noSchool(school) ? -1 : orderIn(w, school, w.day, -1);
    }

    int look(int school, int day, int really) {
        if (noSchool(school) || day < 0 || day >= w.day || out(really, 0, 999)) {
            return -1;
        }
        if (w.looks.size() == 30) {
            return -2;
        }
        w.looks.add(new Look(school, day, really));
        return w.looks.size();
    }

    int byHowMuch(int shire, int what) {
        if (out(shire, 0, 3) || out(what, 0, 2)) {
            return -1000000001;
        }
        List<Integer> all = new ArrayList<>();
        for (Look l : w.looks) {
            if (w.schools.get(l.school).shire == shire) {
                all.add(headsOf(w, l.school, l.day) - l.really);
            }
        }
        if (all.isEmpty()) {
            return -1000000004;
        }
        if (what == 0) {
            return all.stream().mapToInt(n -> n).sum();
        }
        return what == 1 ? all.stream().mapToInt(n -> n).min().getAsInt() : all.stream().mapToInt(n -> n).max().getAsInt();
    }

    // ---- rounds, plans

    private static int far(int x, int y, int u, int v) {
        return (x > u ? x - u : u - x) + (y > v ? y - v : v - y);
    }

    private int wrongPlace(List<Integer> order, Dairy d, int minute) {
        int x = d.x;
        int y = d.y;
        for (int k = 0; k < order.size(); k++) {
            if (noSchool(order.get(k)) || order.subList(0, k).contains(order.get(k))) {
                return k;
            }
            School s = w.schools.get(order.get(k));
            minute += far(x, y, s.x, s.y);
            if (minute > s.latest) {
                return k;
            }
            x = s.x;
            y = s.y;
        }
        return -4;
    }

    private int way(List<Integer> order, Dairy d) {
        int x = d.x;
        int y = d.y;
        int way = 0;
        for (int k : order) {
            School s = w.schools.get(k);
            way += far(x, y, s.x, s.y);
            x = s.x;
            y = s.y;
        }
        return way + far(x, y, d.x, d.y);
    }

    private static void orders(List<Integer> begun, List<Integer> rest, List<List<Integer>> all) {
        if (rest.isEmpty()) {
            all.add(new ArrayList<>(begun));
        }
        for (int k = 0; k < rest.size(); k++) {
            List<Integer> fewer = new ArrayList<>(rest);
            begun.add(fewer.remove(k));
            orders(begun, fewer, all);
            begun.remove(begun.size() - 1);
        }
    }

    private static boolean isAhead(List<Integer> a, List<Integer> b) {
        for (int k = 0; k < a.size(); k++) {
            if (!a.get(k).equals(b.get(k))) {
                return a.get(k) < b.get(k);
            }
        }
        return false;
    }

    int round(int dairy, int minute, int d, int i) {
        if (noDairy(dairy) || out(minute, 0, 600) || noShelf(d) || out(i, -1, 6)) {
            return -1;
        }
        if (shelves[d] == null) {
            return -11;
        }
        if (!(shelves[d] instanceof Row row) || row.sort != 0) {
            return -12;
        }
        if (out(row.elements.size(), 1, 7)) {
            return -13;
        }
        for (int k = 0; k < row.elements.size(); k++) {
            if (noSchool(row.elements.get(k)) || row.elements.indexOf(row.elements.get(k)) != k) {
                return -13;
            }
        }
        List<List<Integer>> all = new ArrayList<>();
        orders(new ArrayList<>(), row.elements, all);
        Dairy from = w.dairies.get(dairy);
        List<Integer> best = null;
        for (List<Integer> order : all) {
            if (wrongPlace(order, from, minute) == -4) {
                int more = best == null ? -1 : way(order, from) - way(best, from);
                if (more < 0 || more == 0 && isAhead(order, best)) {
                    best = order;
                }
            }
        }
        if (best == null || i >= best.size()) {
            return -4;
        }
        return i == -1 ? way(best, from) : best.get(i);
    }

    int judge(int dairy, int minute, int d) {
        if (noDairy(dairy) || out(minute, 0, 600) || noShelf(d)) {
            return -1;
        }
        if (shelves[d] == null) {
            return -11;
        }
        if (!(shelves[d] instanceof Row row) || row.sort != 0) {
            return -12;
        }
        return wrongPlace(row.elements, w.dairies.get(dairy), minute);
    }

    private boolean isEnough(int dairy, int n, int more) {
        World mind = w.copied();
        mind.dairies.get(dairy).bottles += more;
        for (int k = 0; k < n; k++) {
            int[] unmet = passDay(mind, -1);
            for (School s : mind.schools) {
                if (winnerIn(mind, s.shire) == dairy && unmet[s.number] > 0) {
                    return false;
                }
            }
        }
        return true;
    }

    int bought(int dairy, int n) {
        if (noDairy(dairy) || out(n, 1, 20)) {
            return -1;
        }
        if (w.day + n > 400) {
            return -2;
        }
        for (int more = 0; more <= 1000; more++) {
            if (isEnough(dairy, n, more)) {
                return more;
            }
        }
        return -4;
    }

    int parted(int n, int day, int order, int shire) {
        if (out(n, 0, 9999) || out(day, w.day, 400) || out(order, 0, 255) || out(shire, 0, 3)) {
            return -1;
        }
        List<Integer> turns = List.of(order % 4, order / 4 % 4, order / 16 % 4, order / 64);
        for (int k = 0; k < 4; k++) {
            if (!turns.contains(k)) {
                return -1;
            }
        }
        int[] got = new int[4];
        for (int turn : turns) {
            for (School s : w.schools) {
                if (s.shire == turn) {
                    int gets = Math.min(n, orderIn(w, s.number, day, -1));
                    got[turn] += gets;
                    n -= gets;
                }
            }
        }
        return got[shire];
    }

    int away(int age, int n, int what) {
        if (out(age, 0, 2) || out(n, 1, 60) || out(what, 0, 2)) {
            return -1000000001;
        }
        if (w.day + n > 400) {
            return -1000000002;
        }
        World with = w.copied();
        World without = w.copied();
        for (int k = 0; k < n; k++) {
            passDay(with, -1);
            passDay(without, age);
        }
        int less = 0;
        int sum = what == 0 ? 5 : what == 1 ? 10 : 8;
        for (int s = 0; s < w.schools.size(); s++) {
            less += with.schools.get(s).sums[sum] - without.schools.get(s).sums[sum];
        }
        return less;
    }

    int beside(int d, int edge, int what) {
        if (noShelf(d) || out(edge, 0, 600) || out(what, 0, 1)) {
            return -1000000001;
        }
        if (shelves[d] == null) {
            return -1000000011;
        }
        if (!(shelves[d] instanceof Row row) || row.sort != 0) {
            return -1000000012;
        }
        int pairs = 0;
        int sum = 0;
        for (School one : w.schools) {
            for (School other : w.schools) {
                boolean marked = Math.max(one.number, other.number) < row.elements.size()
                        && row.elements.get(one.number) == 1 && row.elements.get(other.number) == 0;
                int apart = headsOf(w, one.number, w.day) - headsOf(w, other.number, w.day);
                if (marked && one.shire == other.shire && apart <= edge && -apart <= edge) {
                    pairs++;
                    sum += one.sums[5] - other.sums[5];
                }
            }
        }
        return what == 0 ? sum : pairs;
    }

    // ---- the image, what is told

    int image() {
        image = w.copied();
        return w.day;
    }

    int restore() {
        if (image == null) {
            return -3;
        }
        w = image.copied();
        return w.day;
    }

    int count(int what) {
        int bottles = w.dairies.stream().mapToInt(d -> d.bottles).sum();
        int gone = w.schools.stream().mapToInt(s -> s.sums[8]).sum();
        int burst = w.schools.stream().mapToInt(s -> s.sums[3]).sum();
        int[] counts = {w.schools.size(), w.dairies.size(), w.acts.size(), w.day, w.looks.size(), bottles, gone, burst,
            w.told.size()};
        return out(what, 0, 8) ? -1 : counts[what];
    }

    // ---- shelves

    int keep(int d, int what, int k, int n, int school) {
        if (noShelf(d) || out(what, 0, 1)) {
            return -1;
        }
        if (what == 1 && (out(k, 0, 6) || out(n, 0, 9999) || out(school, 0, 11))) {
            return -1;
        }
        shelves[d] = what == 0 ? null : new Crate(k, n, school);
        return 0;
    }

    int row(int d, int sort, int n) {
        if (noShelf(d) || out(sort, 0, 2) || n > 80) {
            return -1;
        }
        if (n < 0) {
            return -14;
        }
        List<Integer> zeros = new ArrayList<>();
        for (int k = 0; k < n; k++) {
            zeros.add(0);
        }
        shelves[d] = new Row(sort, zeros);
        return 0;
    }

    int put(int d, int i, int v) {
        if (noShelf(d)) {
            return -1;
        }
        if (shelves[d] == null) {
            return -11;
        }
        if (!(shelves[d] instanceof Row row)) {
            return -12;
        }
        if (out(i, 0, row.elements.size() - 1)) {
            return -13;
        }
        row.elements.set(i, row.sort == 0 ? (v << 24) >> 24 : row.sort == 1 ? (v << 16) >> 16 : v);
        return 0;
    }

    long element(int d, int i) {
        if (noShelf(d)) {
            throw new IllegalArgumentException();
        }
        if (!(shelves[d] instanceof Row row) || out(i, 0, row.elements.size() - 1)) {
            throw new IllegalStateException();
        }
        return row.elements.get(i);
    }

    int copy(int d, int i, int e, int j, int n) {
        if (noShelf(d) || noShelf(e)) {
            return -1;
        }
        if (shelves[d] == null || shelves[e] == null) {
            return -11;
        }
        if (!(shelves[d] instanceof Row from) || !(shelves[e] instanceof Row to) || from.sort != to.sort) {
            return -12;
        }
        if (i < 0 || j < 0 || n < 0 || n > 80 || i > from.elements.size() - n || j > to.elements.size() - n) {
            return -13;
        }
        List<Integer> these = new ArrayList<>(from.elements.subList(i, i + n));
        for (int k = 0; k < n; k++) {
            to.elements.set(j + k, these.get(k));
        }
        return n;
    }

    int crate(int d, int what, int price) {
        if (noShelf(d) || out(what, 0, 1) || out(price, 0, 999)) {
            return -1;
        }
        if (shelves[d] == null) {
            return -11;
        }
        if (!(shelves[d] instanceof Crate c)) {
            return -12;
        }
        int n = c.bottles;
        int third = third(n, price);
        int[] drunk = {3 * n, n, 2 * n, n / 2, 0, 0, 0};
        int[] paid = {n * price / 100, third, n * price / 100 / 2, third, third / 2, third / 2, Math.max(0, third - 1)};
        return what == 0 ? drunk[c.kind] : paid[c.kind];
    }

    int toss(int d) {
        if (noShelf(d)) {
            return -1;
        }
        if (shelves[d] == null) {
            return -11;
        }
        if (!(shelves[d] instanceof Crate c)) {
            return -12;
        }
        if (c.kind == 2 || c.bottles == 0) {
            return -15;
        }
        return c.kind == 5 ? c.bottles : c.kind == 6 ? 100 + c.school : c.school;
    }
}
