import java.util.ArrayList;
import java.util.List;
import java.util.Random;

/** Random runs of calls, each answer compared with that of NaiveClub. The seeds are fixed. */
public final class AgainstNaiveTest {
    private static final int CALLS = 500;
    private static final int TOLD_OF_A_RUN = 25;

    private final Random dice;
    private final CardClub x = new CardClub();
    private final NaiveClub y = new NaiveClub();
    private final List<String> run = new ArrayList<>();
    private boolean differs = false;
    private int calls = 0;

    private AgainstNaiveTest(long seed) {
        dice = new Random(seed);
    }

    public static void main(String[] args) {
        int runs = args.length > 0 ? Integer.parseInt(args[0]) : 150;
        for (int seed = 0; seed < runs; seed++) {
            Due.part("seed " + seed);
            new AgainstNaiveTest(seed).play(seed % 5);
        }
        for (int seed = 0; seed < runs * 20; seed++) {
            Due.part("texts, seed " + seed);
            new AgainstNaiveTest(seed).playTexts();
        }
        for (int seed = 0; seed < runs * 4; seed++) {
            Due.part("rings, seed " + seed);
            new AgainstNaiveTest(seed).playRings();
            Due.part("stamps, seed " + seed);
            new AgainstNaiveTest(seed).playStamps();
            Due.part("give, seed " + seed);
            new AgainstNaiveTest(seed).playGive();
        }
        Due.endOfTest();
    }

    // ---- calls on both ----

    private int same(String call, long got, long want) {
        calls++;
        run.add(call + " = " + want);
        if (got != want && !differs) {
            differs = true;
            Due.is(call, want, got);
            for (String row : run.subList(Math.max(0, run.size() - TOLD_OF_A_RUN), run.size())) {
                System.out.println("    " + row);
            }
        }
        return (int) want;
    }

    private int same(String call, boolean got, boolean want) {
        return same(call, got ? 1 : 0, want ? 1 : 0);
    }

    private int roll(int low, int high) {
        return low + dice.nextInt(high - low + 1);
    }

    /** Mostly within 0 to below; now and then just outside, or far away. */
    private int number(int below) {
        int luck = roll(0, 199);
        if (luck == 0) {
            return -1;
        }
        if (luck == 1) {
            return below;
        }
        if (luck == 2) {
            return dice.nextInt();
        }
        return roll(0, Math.max(0, below - 1));
    }

    private void feedText(String text) {
        same("end 0", x.end(0), y.end(0));
        for (int at = 0; at < text.length(); at += 20) {
            int[] w = new int[5];
            for (int i = 0; i < 20; i++) {
                int sign = at + i < text.length() ? text.charAt(at + i) : 0;
                w[i / 4] = w[i / 4] << 8 | sign;
            }
            same("feed " + text.substring(at), x.feed(w[0], w[1], w[2], w[3], w[4]), y.feed(w));
        }
        same("end " + text.length(), x.end(text.length()), y.end(text.length()));
    }

    // ---- texts ----

    private String one(String... words) {
        return words[dice.nextInt(words.length)];
    }

    private String blanks() {
        return one("", "", " ", "  ");
    }

    private String atom() {
        String n = String.valueOf(roll(0, 3));
        return switch (roll(0, 6)) {
            case 0 -> "land " + n;
            case 1 -> "tongue " + n;
            case 2 -> "shared";
            case 3 -> "far " + roll(0, 20);
            case 4 -> "near " + roll(0, 20);
            case 5 -> "old " + roll(0, 50);
            default -> "any";
        };
    }

    private String wishText(int depth) {
        int luck = roll(0, 9);
        if (depth == 0 || luck < 3) {
            return atom();
        }
        if (luck < 5) {
            return "not " + wishText(depth - 1);
        }
        if (luck < 7) {
            return "(" + blanks() + wishText(depth - 1) + blanks() + ")";
        }
        return wishText(depth - 1) + one(" and ", " or ", "  and  ", " or not ") + wishText(depth - 1);
    }

    private String rulesText() {
        StringBuilder text = new StringBuilder(blanks());
        int words = roll(1, 4);
        for (int i = 0; i < words; i++) {
            text.append(i == 0 ? "" : blanks() + ";" + blanks());
            switch (roll(0, 4)) {
                case 0 -> text.append("under ").append(roll(1, 21));
                case 1 -> text.append("more ").append(roll(0, 4));
                case 2 -> text.append("slack ").append(roll(0, 21));
                case 3 -> text.append("lost ").append(roll(1, 60));
                default -> text.append("strict ").append(roll(0, 3));
            }
        }
        return text.append(blanks()).toString();
    }

    private String ratesText() {
        StringBuilder text = new StringBuilder(blanks());
        int clauses = roll(0, 8) == 0 ? roll(11, 14) : roll(1, 5);
        int grams = roll(1, 20);
        for (int i = 0; i < clauses; i++) {
            text.append(i == 0 ? "" : ";" + one("", " "));
            text.append("zone ").append(clauses > 10 ? 0 : roll(0, 3)).append(' ').append(grams);
            text.append(' ').append(roll(1, 900));
            grams += roll(0, 12) == 0 ? 0 : roll(1, 30);
        }
        String all = text.append(blanks()).toString();
        return all.substring(0, Math.min(all.length(), 200));
    }

    private String spoilt(String text) {
        StringBuilder s = new StringBuilder(text);
        for (int n = roll(0, 2); n > 0 && s.length() > 0; n--) {
            int at = dice.nextInt(s.length());
            switch (roll(0, 3)) {
                case 0 -> s.deleteCharAt(at);
                case 1 -> s.insert(at, one(" ", "9", "00", "(", ")", "x", ";", "not ", "any ", " or ", "\u00ff", "\t"));
                case 2 -> s.setCharAt(at, (char) roll(0, 255));
                default -> s.setLength(at);
            }
        }
        return s.substring(0, Math.min(s.length(), 200));
    }

    private void playTexts() {
        for (int m = 0; m < 2; m++) {
            same("member", x.member(m, 1 << m, -1), y.member(m, 1 << m, -1));
        }
        for (int i = 0; i < 25; i++) {
            tellWish(roll(0, 1), spoilt(wishText(roll(0, 5))));
            same("meets", x.meets(0, 1), y.meets(0, 1));
            tellRules(spoilt(rulesText()));
            tellRates(0, spoilt(ratesText()));
            tellWish(0, spoilt("not ".repeat(roll(0, 6)) + "(".repeat(roll(0, 6)) + "any"));
            tellWish(0, spoilt(one("any or ", "old 9 and ", "far 1 or ").repeat(roll(9, 13)) + "any"));
            for (int w = 10; w < 15; w++) {
                same("count " + w, x.count(w), y.count(w));
            }
        }
    }

    private void tellWish(int m, String text) {
        feedText(text);
        same("wish " + m, x.wish(m), y.wish(m));
    }

    private void tellRules(String text) {
        feedText(text);
        same("rules", x.rules(), y.rules());
    }

    private void tellRates(int day, String text) {
        feedText(text);
        same("rates " + day, x.rates(day), y.rates(day));
    }

    // ---- the three searches ----

    private void playRings() {
        int members = roll(2, 12);
        for (int m = 0; m < members; m++) {
            int family = roll(0, 9) == 0 ? roll(0, 2) : -1;
            same("member", x.member(0, 0, family), y.member(0, 0, family));
        }
        boolean few = dice.nextBoolean();
        boolean wanting = !few && roll(0, 3) == 0;
        int offers = few ? roll(2, 7) : wanting ? roll(8, 12) : roll(8, 20);
        int kinds = few ? 3 : wanting ? 32 : 8;
        for (int o = 0; o < offers; o++) {
            int m = few || roll(0, 3) == 0 ? number(members) : o % members;
            int kind = roll(0, kinds - 1);
            int wants = few ? dice.nextInt(8) : 1 << roll(0, kinds - 1) | (roll(0, 3) == 0 ? 1 << roll(0, 7) : 0);
            if (wanting) {
                wants = dice.nextInt() & (offers > 9 ? dice.nextInt() : -1);
            }
            same("offer " + m + " " + kind + " " + wants, x.offer(m, kind, wants), y.offer(m, kind, wants));
        }
        for (int again = 0; again < 3; again++) {
            int found = same("rings", x.rings(), y.rings());
            for (int k = -1; k <= found; k++) {
                for (int i = -1; i < 6; i++) {
                    same("ring " + k + " " + i, x.ring(k, i), y.ring(k, i));
                }
            }
            int k = number(found);
            same("close " + k, x.close(k), y.close(k));
            int o = number(offers);
            same("away " + o, x.away(o), y.away(o));
        }
        for (int o = 0; o < offers; o++) {
            for (int w = 0; w < 5; w++) {
                same("offers " + o + " " + w, x.offers(o, w), y.offers(o, w));
            }
        }
    }

    private void playStamps() {
        for (int m = 0; m < 2; m++) {
            same("member", x.member(0, 0, -1), y.member(0, 0, -1));
        }
        same("ask", x.ask(0), y.ask(0));
        tellRates(0, "zone 0 1 " + roll(1, 60) + ";zone 0 2 " + roll(60, 300) + ";zone 0 3 " + roll(1, 900));
        int kinds = roll(1, 8);
        int unit = roll(1, 10);
        for (int k = 0; k < kinds; k++) {
            int value = roll(0, 1) == 0 ? unit * roll(1, 12) : roll(1, 500);
            int many = kinds > 5 ? roll(0, 4) : kinds > 3 ? roll(0, 9) : roll(0, 50);
            same("stamps " + k, x.stamps(k, value, many), y.stamps(k, value, many));
        }
        for (int i = 0; i < 6; i++) {
            int grams = roll(1, 4);
            same("pay " + grams, x.pay(0, grams), y.pay(0, grams));
            for (int k = -1; k < 9; k++) {
                same("paid " + k, x.paid(k), y.paid(k));
                same("count " + (20 + k), x.count(20 + k), y.count(20 + k));
            }
        }
    }

    private void playGive() {
        boolean all = roll(0, 9) == 0;
        int members = all ? 8 : roll(2, 8);
        for (int m = 0; m < members; m++) {
            int land = roll(0, 2);
            int family = roll(0, 5) == 0 ? roll(0, 2) : -1;
            same("member", x.member(land, 0, family), y.member(land, 0, family));
            if (roll(0, 1) == 0) {
                tellWish(m, one("land 0", "land 1", "not land 2", "far 1"));
            }
        }
        tellRules(one("slack 1", "slack 2;strict 1", "slack 20;strict 0", "slack 5", "under 2", "under 1;more 1;slack 4"));
        for (int round = 0; round < 6; round++) {
            for (int i = 0; i < (all ? 20 : roll(1, 6)) && y.listed.size() < (all ? 8 : 5); i++) {
                int m = number(members);
                same("list " + m, x.list(m), y.list(m));
            }
            giveAndLook();
            for (int i = 0; i < 3; i++) {
                int c = number(y.cards.size());
                same("arrive " + c, x.arrive(c, 0), y.arrive(c, 0));
            }
            int m = number(members);
            if (roll(0, 5) == 0) {
                same("leave " + m, x.leave(m), y.leave(m));
            }
            same("ask " + m, x.ask(m), y.ask(m));
        }
    }

    private void giveAndLook() {
        int cards = y.cards.size();
        same("give", x.give(), y.give());
        for (int c = cards; c < y.cards.size(); c++) {
            same("card " + c + " 0", x.card(c, 0), y.card(c, 0));
            same("card " + c + " 1", x.card(c, 1), y.card(c, 1));
        }
    }

    // ---- any calls ----

    private void play(int temper) {
        int first = temper == 4 ? 40 : roll(2, 9);
        for (int m = 0; m < first; m++) {
            comes();
        }
        if (temper == 3) {
            tellRules("under 20;more 1;slack 20;lost " + roll(5, 400));
        }
        while (calls < CALLS && !differs) {
            step(roll(0, 99));
        }
        lookAtAll();
    }

    private void comes() {
        int land = number(4);
        int tongues = number(16);
        int family = roll(0, 2) == 0 ? number(4) : -1;
        same("member " + land + " " + tongues + " " + family, x.member(land, tongues, family),
                y.member(land, tongues, family));
    }

    private void step(int luck) {
        int members = y.people.size();
        int cards = y.cards.size();
        int m = number(members);
        int b = number(members);
        int c = number(cards);
        int day = roll(0, 2) == 0 ? number(2000) : number(y.now + 20);
        if (luck < 20) {
            int made = same("ask " + m, x.ask(m), y.ask(m));
            if (made >= 0) {
                same("to", x.card(made, 1), y.card(made, 1));
                same("bound", x.card(made, 3), y.card(made, 3));
            }
        } else if (luck < 33) {
            int told = y.now - roll(0, 9);
            same("arrive " + c + " " + told, x.arrive(c, told), y.arrive(c, told));
        } else if (luck < 37) {
            same("back " + c, x.back(c), y.back(c));
        } else if (luck < 45) {
            int next = roll(0, 30) == 0 ? number(2000) / 8 : y.now + roll(-1, 6);
            same("clock " + next, x.clock(next), y.clock(next));
        } else if (luck < 50) {
            int known = roll(0, 3) == 0 ? number(2000) : number(y.now + 5);
            same("state " + c + " " + day + " " + known, x.state(c, day, known), y.state(c, day, known));
        } else if (luck < 56) {
            int w = number(11);
            same("about " + m + " " + w, x.about(m, w), y.about(m, w));
        } else if (luck < 60) {
            int w = number(7);
            same("card " + c + " " + w, x.card(c, w), y.card(c, w));
        } else if (luck < 63) {
            same("may " + m + " " + b, x.may(m, b), y.may(m, b));
        } else if (luck < 66) {
            int w = number(3);
            int to = number(4);
            int from = number(4);
            same("span " + from + " " + to + " " + w, x.span(from, to, w), y.span(from, to, w));
        } else {
            rarer(luck, m, b);
        }
    }

    private void rarer(int luck, int m, int b) {
        int cards = y.cards.size();
        int c = number(cards);
        if (luck < 68) {
            same("album " + m, x.album(m), y.album(m));
        } else if (luck < 72) {
            int kind = number(4);
            int wants = dice.nextInt(16);
            same("offer " + m + " " + kind + " " + wants, x.offer(m, kind, wants), y.offer(m, kind, wants));
        } else if (luck < 75) {
            int found = same("rings", x.rings(), y.rings());
            int k = number(found);
            same("close " + k, x.close(k), y.close(k));
            same("close " + k, x.close(k), y.close(k));
        } else if (luck < 77) {
            int r = number(y.closed);
            same("drop " + r + " " + m, x.drop(r, m), y.drop(r, m));
        } else if (luck < 78) {
            int o = number(y.swaps.size());
            same("away " + o, x.away(o), y.away(o));
        } else if (luck < 80) {
            if (roll(0, 3) == 0) {
                same("leave " + m, x.leave(m), y.leave(m));
            }
        } else if (luck < 82) {
            comes();
        } else if (luck < 84) {
            tellWish(m, wishText(2));
        } else if (luck < 85) {
            tellRules(roll(0, 1) == 0 ? "slack " + roll(1, 20) + ";under " + roll(2, 20) : spoilt(rulesText()));
        } else if (luck < 88) {
            if (y.listed.size() < (y.people.size() > 12 ? 2 : 4)) {
                same("list " + m, x.list(m), y.list(m));
            }
        } else if (luck < 90) {
            giveAndLook();
        } else if (luck < 91) {
            int n = number(100);
            int from = number(4);
            int to = number(4);
            same("far " + from + " " + to + " " + n, x.far(from, to, n), y.far(from, to, n));
        } else if (luck < 92) {
            tellRates(number(y.now + 9), ratesText());
        } else if (luck < 94) {
            int day = number(y.now + 30);
            int grams = number(150);
            int from = number(4);
            int to = number(4);
            same("price", x.price(from, to, grams, day), y.price(from, to, grams, day));
        } else if (luck < 96) {
            int k = number(8);
            int value = number(300);
            int many = number(5);
            same("stamps " + k, x.stamps(k, value, many), y.stamps(k, value, many));
            int grams = number(150);
            same("pay " + c + " " + grams, x.pay(c, grams), y.pay(c, grams));
            same("paid " + k, x.paid(k), y.paid(k));
        } else if (luck < 98) {
            int w = number(40);
            same("count " + w, x.count(w), y.count(w));
        } else {
            same("meets " + m + " " + b, x.meets(m, b), y.meets(m, b));
        }
    }

    private void lookAtAll() {
        for (int m = 0; m < y.people.size(); m++) {
            for (int w = 0; w < 11; w++) {
                same("about " + m + " " + w, x.about(m, w), y.about(m, w));
            }
            same("album " + m, x.album(m), y.album(m));
        }
        for (int c = 0; c < y.cards.size(); c++) {
            for (int w = 0; w < 7; w++) {
                same("card " + c + " " + w, x.card(c, w), y.card(c, w));
            }
            int day = roll(0, 200);
            int known = roll(0, 200);
            same("state " + c + " " + day + " " + known, x.state(c, day, known), y.state(c, day, known));
        }
        for (int o = 0; o < y.swaps.size(); o++) {
            for (int w = 0; w < 5; w++) {
                same("offers " + o + " " + w, x.offers(o, w), y.offers(o, w));
            }
        }
        for (int w = 0; w < 40; w++) {
            same("count " + w, x.count(w), y.count(w));
        }
    }
}
