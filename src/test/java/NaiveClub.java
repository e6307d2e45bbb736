import java.util.ArrayList;
import java.util.Arrays;
import java.util.HashSet;
import java.util.List;
import java.util.Set;

/**
 * The document once more, as slow and plain as can be: everything is worked out anew from what was told,
 * and where the best of many ways is asked for, all of them are tried in the order in which they stand.
 */
final class NaiveClub {
    static final int NONE = -1;

    record Person(int land, int tongues, int family, int came) { }

    static final class Sent {
        int from, to, day, bound, ring = NONE, cancelled = NONE;
    }

    record Telling(int card, int day, boolean back, int known) { }

    static final class Swap {
        int member, kind, wants, ring = NONE, card = NONE;
        boolean gone;
    }

    record Clause(int zone, int grams, int coins) { }

    record Tariff(int day, List<Clause> clauses) { }

    static final class Fault extends RuntimeException {
        final int number;

        Fault(int place, int kind) {
            number = 1 + 8 * place + kind;
        }
    }

    int now = 0;
    final int[][] far = new int[16][16];
    final List<Person> people = new ArrayList<>();
    final Set<Integer> left = new HashSet<>();
    final int[] credit = new int[40];
    final String[] wish = new String[40];
    final List<Integer> tape = new ArrayList<>();
    final List<Sent> cards = new ArrayList<>();
    final List<Telling> tellings = new ArrayList<>();
    int under = 5, more = 10, slack = 3, lost = 60, strict = 2;
    final List<Integer> listed = new ArrayList<>();
    final List<Swap> swaps = new ArrayList<>();
    List<List<Integer>> found = new ArrayList<>();
    int closed = 0;
    final List<Tariff> tariffs = new ArrayList<>();
    final int[] stampValue = new int[8];
    final int[] stampMany = new int[8];
    int[] went = null;

    NaiveClub() {
        for (int[] row : far) {
            Arrays.fill(row, 10);
        }
        for (int i = 0; i < 16; i++) {
            far[i][i] = 0;
        }
        Arrays.fill(stampValue, NONE);
    }

    static boolean in(int n, int low, int high) {
        return low <= n && n <= high;
    }

    boolean known(int m) {
        return in(m, 0, people.size() - 1);
    }

    boolean there(int m) {
        return known(m) && !left.contains(m);
    }

    boolean clock(int day) {
        if (!in(day, now, 1999)) {
            return false;
        }
        now = day;
        return true;
    }

    int far(int a, int b, int n) {
        if (!in(a, 0, 15) || !in(b, 0, 15) || a == b || !in(n, 0, 99)) {
            return NONE;
        }
        int was = far[a][b];
        far[a][b] = n;
        far[b][a] = n;
        return was;
    }

    int member(int land, int tongues, int family) {
        if (people.size() == 40 || !in(land, 0, 15) || !in(tongues, 0, 65535) || !in(family, -1, 19)) {
            return NONE;
        }
        people.add(new Person(land, tongues, family, now));
        return people.size() - 1;
    }

    int leave(int m) {
        if (!there(m)) {
            return NONE;
        }
        left.add(m);
        int many = 0;
        for (int c = 0; c < cards.size(); c++) {
            if (cards.get(c).to == m && state(c, now, now) == 0) {
                cards.get(c).cancelled = now;
                credit[cards.get(c).from]++;
                many++;
            }
        }
        for (int ring = 0; ring < closed; ring++) {
            many += Math.max(0, drop(ring, m));
        }
        for (Swap s : swaps) {
            if (s.member == m) {
                s.gone = true;
            }
        }
        return many;
    }

    int feed(int... numbers) {
        if (tape.size() > 180) {
            return NONE;
        }
        for (int n : numbers) {
            tape.add(n >>> 24);
            tape.add(n >>> 16 & 255);
            tape.add(n >>> 8 & 255);
            tape.add(n & 255);
        }
        return tape.size();
    }

    int end(int n) {
        if (!in(n, 0, tape.size())) {
            return NONE;
        }
        while (tape.size() > n) {
            tape.remove(tape.size() - 1);
        }
        return n;
    }

    String takeTape() {
        StringBuilder text = new StringBuilder();
        for (int b : tape) {
            text.append((char) b);
        }
        tape.clear();
        return text.toString();
    }

    // ---- texts: cut into pieces first, then read from these ----

    record Piece(String text, int place) {
        boolean isNumber() {
            return Character.isDigit(text.charAt(0));
        }
    }

    static List<Piece> pieces(String text) {
        List<Piece> all = new ArrayList<>();
        int i = 0;
        while (i < text.length()) {
            int from = i;
            if (text.charAt(i) == ' ') {
                i++;
                continue;
            }
            if (in(text.charAt(i), 'a', 'z')) {
                while (i < text.length() && in(text.charAt(i), 'a', 'z')) {
                    i++;
                }
            } else if (in(text.charAt(i), '0', '9')) {
                while (i < text.length() && in(text.charAt(i), '0', '9')) {
                    i++;
                }
            } else {
                i++;
            }
            all.add(new Piece(text.substring(from, i), from));
        }
        return all;
    }

    static final class Reader {
        final List<Piece> pieces;
        final int length;
        int next = 0;
        int atoms = 0;
        int depth = 0;

        Reader(String text) {
            pieces = pieces(text);
            length = text.length();
        }

        String peek() {
            return next < pieces.size() ? pieces.get(next).text : "";
        }

        int place() {
            return next < pieces.size() ? pieces.get(next).place : length;
        }

        int number(int low, int high) {
            if (peek().isEmpty() || !pieces.get(next).isNumber()) {
                throw new Fault(place(), 0);
            }
            if (peek().length() > 3 || !in(Integer.parseInt(peek()), low, high)) {
                throw new Fault(place(), 1);
            }
            return Integer.parseInt(pieces.get(next++).text);
        }

        void sign(String sign) {
            if (!peek().equals(sign)) {
                throw new Fault(place(), 0);
            }
            next++;
        }
    }

    /** Reads a wish and works it out for owner and other at once. */
    boolean either(Reader r, int owner, int other) {
        boolean value = both(r, owner, other);
        while (r.peek().equals("or")) {
            r.next++;
            value = both(r, owner, other) | value;
        }
        return value;
    }

    boolean both(Reader r, int owner, int other) {
        boolean value = one(r, owner, other);
        while (r.peek().equals("and")) {
            r.next++;
            value = one(r, owner, other) & value;
        }
        return value;
    }

    boolean one(Reader r, int owner, int other) {
        String word = r.peek();
        int place = r.place();
        if (word.equals("not") || word.equals("(")) {
            if (r.depth == 10) {
                throw new Fault(place, 3);
            }
            r.next++;
            r.depth++;
            boolean value;
            if (word.equals("not")) {
                value = !one(r, owner, other);
            } else {
                value = either(r, owner, other);
                r.sign(")");
            }
            r.depth--;
            return value;
        }
        if (!List.of("land", "tongue", "shared", "far", "near", "old", "any").contains(word)) {
            throw new Fault(place, 0);
        }
        if (++r.atoms > 12) {
            throw new Fault(place, 2);
        }
        r.next++;
        Person me = people.get(owner);
        Person he = people.get(other);
        return switch (word) {
            case "land" -> he.land == r.number(0, 15);
            case "tongue" -> (he.tongues & 1 << r.number(0, 15)) != 0;
            case "shared" -> (he.tongues & me.tongues) != 0;
            case "far" -> far[me.land][he.land] >= r.number(0, 99);
            case "near" -> far[me.land][he.land] <= r.number(0, 99);
            case "old" -> now - he.came >= r.number(0, 999);
            default -> true;
        };
    }

    int wish(int m) {
        if (!known(m) || tape.size() > 100) {
            return NONE;
        }
        String text = takeTape();
        if (text.chars().allMatch(c -> c == ' ')) {
            wish[m] = null;
            return 0;
        }
        try {
            Reader r = new Reader(text);
            either(r, m, m);
            if (r.next < r.pieces.size()) {
                throw new Fault(r.place(), 0);
            }
            wish[m] = text;
            return r.atoms;
        } catch (Fault f) {
            return -2 - f.number;
        }
    }

    boolean met(int a, int b) {
        return wish[a] == null || either(new Reader(wish[a]), a, b);
    }

    int meets(int a, int b) {
        return known(a) && known(b) && a != b ? met(a, b) ? 1 : 0 : NONE;
    }

    int unhappy(int a, int b) {
        return (met(a, b) ? 0 : 1) + (met(b, a) ? 0 : 1);
    }

    int rules() {
        if (tape.size() > 100) {
            return NONE;
        }
        Reader r = new Reader(takeTape());
        int[] told = {5, 10, 3, 60, 2};
        int[] low = {1, 0, 0, 1, 0};
        int[] high = {20, 99, 20, 400, 2};
        List<String> words = List.of("under", "more", "slack", "lost", "strict");
        Set<String> seen = new HashSet<>();
        try {
            while (!r.pieces.isEmpty()) {
                String word = r.peek();
                int w = words.indexOf(word);
                if (w < 0 || !seen.add(word)) {
                    throw new Fault(r.place(), w < 0 ? 0 : 2);
                }
                r.next++;
                told[w] = r.number(low[w], high[w]);
                if (r.next == r.pieces.size()) {
                    break;
                }
                r.sign(";");
            }
        } catch (Fault f) {
            return -2 - f.number;
        }
        under = told[0];
        more = told[1];
        slack = told[2];
        lost = told[3];
        strict = told[4];
        return seen.size();
    }

    // ---- cards ----

    int state(int c, int day, int known) {
        if (!in(c, 0, cards.size() - 1) || !in(day, 0, 1999) || !in(known, 0, 1999) || day < cards.get(c).day) {
            return NONE;
        }
        Sent s = cards.get(c);
        if (s.cancelled != NONE && s.cancelled <= Math.min(day, known)) {
            return 4;
        }
        Telling last = null;
        for (Telling t : tellings) {
            if (t.card == c && t.known <= known) {
                last = t;
            }
        }
        if (last != null && !last.back && last.day <= day) {
            return last.day - s.day < s.bound ? 1 : 3;
        }
        return day - s.day < s.bound ? 0 : 2;
    }

    int states(int m, boolean his, int... which) {
        int many = 0;
        for (int c = 0; c < cards.size(); c++) {
            int state = state(c, now, now);
            if ((his ? cards.get(c).from : cards.get(c).to) == m && Arrays.stream(which).anyMatch(w -> w == state)) {
                many++;
            }
        }
        return many;
    }

    int owed(int m) {
        return states(m, true, 1, 3) + credit[m] - states(m, false, 1, 3) - states(m, false, 0);
    }

    boolean mayAsk(int m) {
        int most = under + (more == 0 ? 0 : states(m, true, 1, 3) / more);
        return there(m) && states(m, true, 0) < most;
    }

    boolean family(int a, int b) {
        return a == b || people.get(a).family != NONE && people.get(a).family == people.get(b).family;
    }

    boolean mayGet(int a, int b) {
        if (!there(b) || family(a, b)) {
            return false;
        }
        for (Sent s : cards) {
            if (s.to == b && family(s.from, a)) {
                return false;
            }
        }
        return owed(b) + slack > 0 && unhappy(a, b) <= strict;
    }

    List<Integer> lastArrivals(int from, int to) {
        List<Integer> days = new ArrayList<>();
        for (int t = 0; t < tellings.size(); t++) {
            Telling telling = tellings.get(t);
            Sent s = cards.get(telling.card);
            boolean toldAgain = false;
            for (Telling later : tellings.subList(t + 1, tellings.size())) {
                toldAgain |= later.card == telling.card;
            }
            if (!toldAgain && !telling.back && people.get(s.from).land == from && people.get(s.to).land == to) {
                days.add(telling.day - s.day);
            }
        }
        return days.subList(Math.max(0, days.size() - 10), days.size());
    }

    int send(int from, int to, int ring) {
        Sent s = new Sent();
        s.from = from;
        s.to = to;
        s.day = now;
        s.ring = ring;
        List<Integer> days = lastArrivals(people.get(from).land, people.get(to).land);
        s.bound = lost;
        for (int i = 0; i < days.size(); i++) {
            s.bound = Math.min(lost, 2 * java.util.Collections.max(days) + 7);
        }
        cards.add(s);
        return cards.size() - 1;
    }

    int lastSentTo(int m) {
        int day = -1;
        for (Sent s : cards) {
            day = s.to == m ? Math.max(day, s.day) : day;
        }
        return day;
    }

    int ask(int m) {
        if (!known(m) || cards.size() == 300) {
            return NONE;
        }
        if (!mayAsk(m)) {
            return -2;
        }
        List<Integer> all = new ArrayList<>();
        for (int b = 0; b < people.size(); b++) {
            if (mayGet(m, b)) {
                all.add(b);
            }
        }
        all.sort((b, c) -> {
            int by = Integer.compare(owed(c), owed(b));
            by = by != 0 ? by : Integer.compare(unhappy(m, b), unhappy(m, c));
            by = by != 0 ? by : Integer.compare(lastSentTo(b), lastSentTo(c));
            return by != 0 ? by : Integer.compare(b, c);
        });
        return all.isEmpty() ? -3 : send(m, all.get(0), NONE);
    }

    int may(int a, int b) {
        return known(a) && known(b) ? mayGet(a, b) ? 1 : 0 : NONE;
    }

    int list(int m) {
        if (!known(m) || listed.contains(m) || listed.size() == 8) {
            return NONE;
        }
        listed.add(m);
        return listed.size();
    }

    // The ways of ALL ASK, tried in their order: a way is better only by what is asked for ahead of it.
    private List<Integer> askers;
    private boolean[][] pairs;
    private int[][] sad;
    private int[] owes;
    private int[] way;
    private int[] bestWay;
    private int[] bestWorth;

    int give() {
        if (cards.size() + listed.size() > 300) {
            return NONE;
        }
        askers = new ArrayList<>();
        for (int m : listed) {
            if (mayAsk(m)) {
                askers.add(m);
            }
        }
        listed.clear();
        int n = people.size();
        pairs = new boolean[askers.size()][n];
        sad = new int[askers.size()][n];
        owes = new int[n];
        for (int b = 0; b < n; b++) {
            owes[b] = owed(b);
            for (int i = 0; i < askers.size(); i++) {
                pairs[i][b] = mayGet(askers.get(i), b);
                sad[i][b] = pairs[i][b] ? unhappy(askers.get(i), b) : 0;
            }
        }
        way = new int[askers.size()];
        bestWorth = null;
        tryWays(0);
        int many = 0;
        for (int i = 0; i < askers.size(); i++) {
            if (bestWay[i] != NONE) {
                send(askers.get(i), bestWay[i], NONE);
                many++;
            }
        }
        return many;
    }

    private void tryWays(int i) {
        if (i == askers.size()) {
            int[] worth = new int[3];
            for (int k = 0; k < i; k++) {
                if (way[k] != NONE) {
                    worth[0]++;
                    worth[1] -= sad[k][way[k]];
                    worth[2] += owes[way[k]];
                }
            }
            if (bestWorth == null || Arrays.compare(worth, bestWorth) > 0) {
                bestWorth = worth;
                bestWay = way.clone();
            }
            return;
        }
        for (int b = 0; b < people.size(); b++) {
            boolean free = pairs[i][b];
            for (int k = 0; k < i; k++) {
                free &= way[k] != b;
            }
            if (free) {
                way[i] = b;
                tryWays(i + 1);
            }
        }
        way[i] = NONE;
        tryWays(i + 1);
    }

    boolean arrive(int c, int day) {
        if (!in(c, 0, cards.size() - 1) || cards.get(c).cancelled != NONE || tellings.size() == 600
                || !in(day, cards.get(c).day, now)) {
            return false;
        }
        tellings.add(new Telling(c, day, false, now));
        return true;
    }

    int arrivedOn(int c) {
        int day = NONE;
        for (Telling t : tellings) {
            day = t.card == c ? t.back ? NONE : t.day : day;
        }
        return day;
    }

    boolean back(int c) {
        if (!in(c, 0, cards.size() - 1) || cards.get(c).cancelled != NONE || tellings.size() == 600
                || arrivedOn(c) == NONE) {
            return false;
        }
        tellings.add(new Telling(c, 0, true, now));
        return true;
    }

    int card(int k, int what) {
        if (!in(k, 0, cards.size() - 1) || !in(what, 0, 6)) {
            return NONE;
        }
        Sent s = cards.get(k);
        return new int[] {s.from, s.to, s.day, s.bound, arrivedOn(k), s.ring, s.cancelled}[what];
    }

    int about(int m, int what) {
        if (!known(m)) {
            return what == 5 ? -1000 : NONE;
        }
        if (!in(what, 0, 10)) {
            return NONE;
        }
        Person p = people.get(m);
        return new int[] {states(m, true, 1, 3), states(m, false, 1, 3), states(m, false, 0), states(m, true, 0),
            credit[m], owed(m), mayAsk(m) ? 1 : 0, p.land, there(m) ? 1 : 0, p.came, states(m, true, 2)}[what];
    }

    int album(int m) {
        if (!known(m)) {
            return NONE;
        }
        int lands = 0;
        for (int c = 0; c < cards.size(); c++) {
            int state = state(c, now, now);
            if (cards.get(c).to == m && (state == 1 || state == 3)) {
                lands |= 1 << people.get(cards.get(c).from).land;
            }
        }
        return lands;
    }

    int span(int from, int to, int what) {
        if (!in(from, 0, 15) || !in(to, 0, 15) || !in(what, 0, 2)) {
            return NONE;
        }
        List<Integer> days = new ArrayList<>(lastArrivals(from, to));
        days.sort(null);
        if (what == 2) {
            return days.size();
        }
        return days.isEmpty() ? NONE : days.get(what == 0 ? 0 : days.size() - 1);
    }

    // ---- rings ----

    boolean open(int o) {
        return in(o, 0, swaps.size() - 1) && !swaps.get(o).gone && swaps.get(o).ring == NONE;
    }

    int offer(int m, int kind, int wants) {
        if (swaps.size() == 20 || !there(m) || !in(kind, 0, 31)) {
            return NONE;
        }
        Swap s = new Swap();
        s.member = m;
        s.kind = kind;
        s.wants = wants;
        swaps.add(s);
        return swaps.size() - 1;
    }

    boolean away(int o) {
        if (!open(o)) {
            return false;
        }
        swaps.get(o).gone = true;
        return true;
    }

    private List<List<Integer>> allRings;
    private List<List<Integer>> chosen;
    private int bestOffers;
    private int bestRings;

    int rings() {
        List<Integer> first = new ArrayList<>();
        for (int o = 0; o < swaps.size() && first.size() < 12; o++) {
            if (open(o)) {
                first.add(o);
            }
        }
        allRings = new ArrayList<>();
        for (int o : first) {
            lengthen(first, new ArrayList<>(List.of(o)));
        }
        found = new ArrayList<>();
        chosen = new ArrayList<>();
        bestOffers = 0;
        bestRings = 0;
        choose(first);
        return found.size();
    }

    private boolean wanted(int o, int by) {
        return (swaps.get(by).wants & 1 << swaps.get(o).kind) != 0;
    }

    private void lengthen(List<Integer> first, List<Integer> path) {
        int last = path.get(path.size() - 1);
        if (path.size() > 1 && wanted(last, path.get(0))) {
            allRings.add(new ArrayList<>(path));
        }
        if (path.size() == 5) {
            return;
        }
        for (int o : first) {
            boolean fits = o > path.get(0) && wanted(last, o);
            for (int p : path) {
                fits &= !family(swaps.get(p).member, swaps.get(o).member);
            }
            if (fits) {
                path.add(o);
                lengthen(first, path);
                path.remove(path.size() - 1);
            }
        }
    }

    private void choose(List<Integer> left) {
        if (left.isEmpty()) {
            int offers = 0;
            for (List<Integer> ring : chosen) {
                offers += ring.size();
            }
            if (offers > bestOffers || offers == bestOffers && chosen.size() < bestRings) {
                bestOffers = offers;
                bestRings = chosen.size();
                found = new ArrayList<>(chosen);
            }
            return;
        }
        for (List<Integer> ring : allRings) {
            if (ring.get(0).equals(left.get(0)) && left.containsAll(ring)) {
                List<Integer> rest = new ArrayList<>(left);
                rest.removeAll(ring);
                chosen.add(ring);
                choose(rest);
                chosen.remove(chosen.size() - 1);
            }
        }
        choose(left.subList(1, left.size()));
    }

    int ring(int k, int i) {
        return in(k, 0, found.size() - 1) && in(i, 0, found.get(k).size() - 1) ? found.get(k).get(i) : NONE;
    }

    int close(int k) {
        if (!in(k, 0, found.size() - 1) || cards.size() + found.get(k).size() > 300) {
            return NONE;
        }
        List<Integer> ring = found.get(k);
        for (int o : ring) {
            if (!open(o)) {
                return NONE;
            }
        }
        for (int i = 0; i < ring.size(); i++) {
            Swap s = swaps.get(ring.get(i));
            s.ring = closed;
            s.card = send(s.member, swaps.get(ring.get((i + 1) % ring.size())).member, closed);
        }
        return closed++;
    }

    int drop(int ring, int m) {
        for (Swap s : swaps) {
            if (s.ring == ring && ring != NONE && s.member == m && !s.gone) {
                s.gone = true;
                if (state(s.card, now, now) != 0) {
                    return 0;
                }
                Sent card = cards.get(s.card);
                card.cancelled = now;
                if (there(card.to)) {
                    credit[card.to]++;
                }
                return 1;
            }
        }
        return NONE;
    }

    int offers(int k, int what) {
        if (!in(k, 0, swaps.size() - 1) || !in(what, 0, 4)) {
            return NONE;
        }
        Swap s = swaps.get(k);
        int condition = s.gone ? 2 : s.ring != NONE ? 1 : 0;
        return new int[] {s.member, s.kind, s.wants, condition, s.gone ? NONE : s.ring}[what];
    }

    // ---- rates and stamps ----

    int rates(int day) {
        if (tariffs.size() == 10 || !in(day, 0, 1999)) {
            return NONE;
        }
        Reader r = new Reader(takeTape());
        List<Clause> clauses = new ArrayList<>();
        try {
            while (true) {
                if (!r.peek().equals("zone")) {
                    throw new Fault(r.place(), 0);
                }
                if (clauses.size() == 12) {
                    throw new Fault(r.place(), 2);
                }
                r.next++;
                int zone = r.number(0, 3);
                int place = r.place();
                int grams = r.number(1, 500);
                for (Clause c : clauses) {
                    if (c.zone == zone && c.grams >= grams) {
                        throw new Fault(place, 1);
                    }
                }
                clauses.add(new Clause(zone, grams, r.number(1, 900)));
                if (r.next == r.pieces.size()) {
                    break;
                }
                r.sign(";");
            }
        } catch (Fault f) {
            return -2 - f.number;
        }
        tariffs.add(new Tariff(day, clauses));
        return clauses.size();
    }

    int price(int from, int to, int grams, int day) {
        if (!in(from, 0, 15) || !in(to, 0, 15) || !in(grams, 1, 500) || !in(day, 0, 1999)) {
            return NONE;
        }
        int far = this.far[from][to];
        int zone = from == to ? 0 : far < 20 ? 1 : far < 50 ? 2 : 3;
        for (int d = day; d >= 0; d--) {
            for (int t = tariffs.size() - 1; t >= 0; t--) {
                if (tariffs.get(t).day == d) {
                    Clause best = null;
                    for (Clause c : tariffs.get(t).clauses) {
                        if (c.zone == zone && c.grams >= grams && (best == null || c.grams < best.grams)) {
                            best = c;
                        }
                    }
                    return best == null ? -2 : best.coins;
                }
            }
        }
        return -2;
    }

    boolean stamps(int kind, int value, int many) {
        if (!in(kind, 0, 7) || !in(value, 1, 500) || !in(many, 0, 50)) {
            return false;
        }
        stampValue[kind] = value;
        stampMany[kind] = many;
        return true;
    }

    private int[] taken;
    private int[] bestTaken;
    private int[] bestPaid;

    int pay(int c, int grams) {
        if (!in(c, 0, cards.size() - 1) || !in(grams, 1, 500)) {
            return NONE;
        }
        Sent s = cards.get(c);
        int price = price(people.get(s.from).land, people.get(s.to).land, grams, now);
        if (price < 0) {
            return -2;
        }
        taken = new int[8];
        bestPaid = null;
        tryStamps(0, 0, 0, price);
        if (bestPaid == null) {
            return -3;
        }
        went = bestTaken;
        for (int k = 0; k < 8; k++) {
            stampMany[k] -= went[k];
        }
        return bestPaid[0];
    }

    private void tryStamps(int k, int sum, int many, int price) {
        if (k == 8 || sum >= price) {
            int[] paid = {sum, many};
            boolean better = bestPaid == null || Arrays.compare(paid, bestPaid) < 0;
            if (sum >= price && better) {
                bestPaid = paid;
                bestTaken = taken.clone();
            }
            return;
        }
        for (int n = stampMany[k]; n >= 0; n--) {
            taken[k] = n;
            tryStamps(k + 1, sum + n * stampValue[k], many + n, price);
        }
        taken[k] = 0;
    }

    int paid(int kind) {
        return in(kind, 0, 7) && went != null ? went[kind] : NONE;
    }

    int count(int what) {
        if (in(what, 20, 27)) {
            return stampMany[what - 20];
        }
        if (in(what, 30, 37)) {
            return stampValue[what - 30];
        }
        int[] all = {now, people.size(), people.size() - left.size(), cards.size(), tellings.size(), swaps.size(),
            closed, tariffs.size(), tape.size(), listed.size(), under, more, slack, lost, strict};
        return in(what, 0, 14) ? all[what] : NONE;
    }
}
