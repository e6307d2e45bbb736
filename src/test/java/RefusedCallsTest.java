import java.util.function.Supplier;
import java.util.function.ToIntFunction;

/**
 * "And nothing happens": each refused call is made on one of two clubs that are alike; then both are looked
 * at from all sides, and asked to do more, and must still answer alike. A boolean counts 1 or 0.
 */
public final class RefusedCallsTest {
    private static final int NONE = CardClub.NONE;
    private static final int GREATEST = Integer.MAX_VALUE;
    private static final int LEAST = Integer.MIN_VALUE;

    public static void main(String[] args) {
        scenesAreRich();
        daysAndLands();
        members();
        texts();
        asking();
        telling();
        reading();
        offers();
        stamps();
        full();
        Due.endOfTest();
    }

    // ---- scenes ----

    /** Something of everything: 2 left, ring 0 is closed and 3 dropped out of it, one more ring is found. */
    private static CardClub busy() {
        CardClub x = new CardClub();
        x.far(0, 1, 25);
        x.member(0, 3, NONE);
        x.member(1, 6, NONE);
        x.member(2, 12, 4);
        x.member(1, 8, 4);
        x.member(15, 1, NONE);
        Due.rules(x, "slack 9; lost 20; under 4");
        Due.wish(x, 0, "not land 2 or old 3");
        Due.wish(x, 4, "near 12");
        x.clock(2);
        x.ask(0);
        x.ask(1);
        x.ask(4);
        x.ask(4);
        x.offer(1, 0, 1 << 1);
        x.offer(3, 1, 1 << 2);
        x.offer(4, 2, 1 << 0);
        x.offer(2, 3, 0);
        x.rings();
        x.close(0);
        x.clock(5);
        x.arrive(0, 4);
        x.arrive(1, 3);
        x.back(1);
        x.leave(2);
        x.drop(0, 3);
        x.offer(0, 4, 1 << 5);
        x.offer(1, 5, 1 << 4);
        x.rings();
        Due.rates(x, 3, "zone 0 20 60; zone 1 50 70; zone 2 400 80");
        x.stamps(0, 30, 5);
        x.stamps(3, 45, 7);
        x.pay(0, 10);
        x.list(4);
        x.list(2);
        Due.tape(x, "any or land 9");
        return x;
    }

    private static CardClub fortyMembers() {
        return Scenes.club(40);
    }

    private static CardClub fullTape() {
        CardClub x = Scenes.club(1);
        Due.tape(x, "zone 0 9 77;zone 0 9" + " ".repeat(180));
        return x;
    }

    private static CardClub fullList() {
        CardClub x = Scenes.club(10);
        for (int m = 0; m < 8; m++) {
            x.list(m);
        }
        return x;
    }

    private static CardClub cardsFull() {
        CardClub x = Scenes.posted(300);
        x.list(3);
        x.offer(0, 0, 2);
        x.offer(1, 1, 1);
        x.rings();
        return x;
    }

    private static CardClub oneCardLeft() {
        CardClub x = Scenes.posted(299);
        x.list(3);
        x.list(4);
        x.offer(0, 0, 2);
        x.offer(1, 1, 1);
        x.rings();
        return x;
    }

    private static CardClub tellingsFull() {
        CardClub x = Scenes.club(3);
        x.ask(0);
        x.ask(0);
        for (int i = 0; i < 600; i++) {
            x.arrive(0, 0);
        }
        return x;
    }

    private static CardClub twentyOffers() {
        CardClub x = Scenes.club(3);
        for (int o = 0; o < 20; o++) {
            x.offer(o % 3, o, 0);
        }
        return x;
    }

    private static CardClub tenRates() {
        CardClub x = Scenes.club(3);
        for (int r = 0; r < 10; r++) {
            Due.rates(x, r, "zone 0 1 " + (r + 1));
        }
        Due.tape(x, "zone 0 1 99");
        return x;
    }

    // ---- looking ----

    private static String look(CardClub x) {
        StringBuilder seen = new StringBuilder();
        for (int what = 0; what < 38; what++) {
            note(seen, "count", what, x.count(what));
        }
        int members = Math.min(x.count(1), 6);
        for (int m = 0; m < members; m++) {
            for (int what = 0; what < 11; what++) {
                note(seen, "about " + m, what, x.about(m, what));
            }
            note(seen, "album", m, x.album(m));
            note(seen, "may", m, x.may(m, (m + 1) % members));
            note(seen, "meets", m, x.meets(m, (m + 1) % members));
        }
        for (int c = 0; c < Math.min(x.count(3), 8); c++) {
            for (int what = 0; what < 7; what++) {
                note(seen, "card " + c, what, x.card(c, what));
            }
            note(seen, "state", c, x.state(c, 5, 4));
        }
        for (int o = 0; o < Math.min(x.count(5), 7); o++) {
            for (int what = 0; what < 5; what++) {
                note(seen, "offers " + o, what, x.offers(o, what));
            }
        }
        lookAtTheRest(x, seen);
        goOn(x, seen);
        return seen.toString();
    }

    private static void lookAtTheRest(CardClub x, StringBuilder seen) {
        for (int i = 0; i < 6; i++) {
            note(seen, "ring 0", i, x.ring(0, i));
            note(seen, "price", i, x.price(0, i, 20, 5));
            note(seen, "span", i, x.span(i % 3, i / 3, 1));
        }
        for (int k = 0; k < 8; k++) {
            note(seen, "paid", k, x.paid(k));
        }
    }

    /** What is hidden shows in what is done next. */
    private static void goOn(CardClub x, StringBuilder seen) {
        note(seen, "close", 0, x.close(0));
        note(seen, "offers 4", 3, x.offers(4, 3));
        note(seen, "pay", 20, x.pay(0, 20));
        note(seen, "wish", 1, x.wish(1));
        note(seen, "meets", 1, x.meets(1, 0));
        note(seen, "give", 0, x.give());
        note(seen, "ask", 0, x.ask(0));
        for (int c = x.count(3) - 3; c < x.count(3); c++) {
            note(seen, "card " + c, 0, x.card(c, 0));
            note(seen, "card " + c, 1, x.card(c, 1));
            note(seen, "card " + c, 3, x.card(c, 3));
        }
        note(seen, "rings", 0, x.rings());
        note(seen, "count", 4, x.count(4));
    }

    private static void note(StringBuilder seen, String call, int what, int answer) {
        seen.append(call).append(' ').append(what).append(" = ").append(answer).append('\n');
    }

    private static void refused(String call, Supplier<CardClub> scene, int answer, ToIntFunction<CardClub> act) {
        CardClub x = scene.get();
        Due.is(call, answer, act.applyAsInt(x));
        String[] got = look(x).split("\n");
        String[] want = look(scene.get()).split("\n");
        for (int i = 0; i < Math.max(got.length, want.length); i++) {
            String g = i < got.length ? got[i] : "nothing";
            String w = i < want.length ? want[i] : "nothing";
            if (!g.equals(w)) {
                Due.wrong("after " + call + " it is " + g + ", without it " + w);
                return;
            }
        }
    }

    private static void refused(String call, int answer, ToIntFunction<CardClub> act) {
        refused(call, RefusedCallsTest::busy, answer, act);
    }

    private static int bit(boolean answer) {
        return answer ? 1 : 0;
    }

    /** The look must see what happens, or it would prove nothing. */
    private static void scenesAreRich() {
        Due.part("the scene");
        CardClub x = busy();
        int[] want = {5, 5, 4, 7, 3, 6, 1, 1, 13, 2, 4, 10, 9, 20, 2};
        for (int what = 0; what < want.length; what++) {
            Due.is("count " + what, want[what], x.count(what));
        }
        Due.is("a ring is found", 4, x.ring(0, 0));
        Due.is("one dropped out", 2, x.offers(1, 3));
        Due.is("two went", 2, x.paid(3));
        Due.is("one is cancelled", 4, x.state(2, 5, 5));
        Due.is("one of the ring, too", 4, x.state(6, 5, 5));
        sees("clock", c -> bit(c.clock(6)));
        sees("far", c -> c.far(0, 1, 90));
        sees("leave", c -> c.leave(0));
        sees("end", c -> c.end(3));
        sees("wish", c -> c.wish(3));
        sees("rules", c -> c.rules());
        sees("ask", c -> c.ask(3));
        sees("list", c -> c.list(0));
        sees("give", c -> c.give());
        sees("arrive", c -> bit(c.arrive(1, 5)));
        sees("back", c -> bit(c.back(0)));
        sees("offer", c -> c.offer(0, 0, 0));
        sees("away", c -> bit(c.away(4)));
        sees("drop", c -> c.drop(0, 1));
        sees("close", c -> c.close(0));
        sees("stamps", c -> bit(c.stamps(0, 30, 4)));
        sees("pay", c -> c.pay(0, 1));
    }

    private static void sees(String call, ToIntFunction<CardClub> act) {
        CardClub x = busy();
        act.applyAsInt(x);
        if (look(x).equals(look(busy()))) {
            Due.wrong("the look doesn't see that " + call + " happened");
        }
    }

    // ---- refused calls ----

    private static void daysAndLands() {
        Due.sentence("NOW is a DAY, its own or a later one: true; false, and nothing happens, for others.");
        for (int day : new int[] {4, 0, -1, 2000, GREATEST, LEAST}) {
            refused("clock " + day, 0, x -> bit(x.clock(day)));
        }
        Due.sentence("what it was; NONE, and nothing happens, for others (both one, too).");
        refused("far, both one", NONE, x -> x.far(1, 1, 5));
        refused("far, -1", NONE, x -> x.far(0, 1, -1));
        refused("far, 100", NONE, x -> x.far(0, 1, 100));
        refused("far, land 16", NONE, x -> x.far(0, 16, 5));
        refused("far, land -1", NONE, x -> x.far(-1, 1, 5));
        refused("far, land -15 and 16", NONE, x -> x.far(-15, 16, 5));
    }

    private static void members() {
        Due.sentence("NONE: there are 40, or something is not as told (TONGUE t is bit t).");
        refused("member, land 16", NONE, x -> x.member(16, 0, NONE));
        refused("member, land -1", NONE, x -> x.member(-1, 0, NONE));
        refused("member, tongues 65536", NONE, x -> x.member(0, 65536, NONE));
        refused("member, tongues -1", NONE, x -> x.member(0, -1, NONE));
        refused("member, family 20", NONE, x -> x.member(0, 0, 20));
        refused("member, family -2", NONE, x -> x.member(0, 0, -2));
        refused("member, the 41st", RefusedCallsTest::fortyMembers, NONE, x -> x.member(0, 0, NONE));
        Due.sentence("how many CARDS are CANCELLED; NONE, and nothing happens, without him there.");
        for (int m : new int[] {2, 5, 40, -1, GREATEST, LEAST}) {
            refused("leave " + m, NONE, x -> x.leave(m));
        }
    }

    private static void texts() {
        Due.sentence("how many it has; NONE, and none comes: it would have more than 200.");
        refused("feed", RefusedCallsTest::fullTape, NONE, x -> x.feed(1, 2, 3, 4, 5));
        Due.sentence("n; NONE, and nothing happens, if it has not so many, or n is below 0.");
        for (int n : new int[] {14, 200, 201, -1, GREATEST, LEAST}) {
            refused("end " + n, NONE, x -> x.end(n));
        }
        Due.sentence("NONE, and nothing happens: no such MEMBER, or more than 100 bytes.");
        for (int m : new int[] {5, 40, -1, GREATEST, LEAST}) {
            refused("wish " + m, NONE, x -> x.wish(m));
        }
        refused("wish of 200 bytes", RefusedCallsTest::fullTape, NONE, x -> x.wish(0));
        Due.sentence("(then those ahead stay); NONE, and nothing happens: more than 100 bytes.");
        refused("rules of 200 bytes", RefusedCallsTest::fullTape, NONE, x -> x.rules());
        Due.sentence("how many CLAUSES; -2 - its FAULT; NONE, and nothing happens: 10, or no such DAY.");
        for (int day : new int[] {2000, -1, GREATEST, LEAST}) {
            refused("rates " + day, NONE, x -> x.rates(day));
        }
        refused("rates, the eleventh", RefusedCallsTest::tenRates, NONE, x -> x.rates(5));
    }

    private static void asking() {
        Due.sentence("-3: nobody MAY GET; NONE, and nothing happens: no such MEMBER, or 300 CARDS.");
        for (int m : new int[] {5, 40, -1, GREATEST, LEAST}) {
            refused("ask " + m, NONE, x -> x.ask(m));
        }
        refused("ask, who left", -2, x -> x.ask(2));
        refused("ask, the 301st", RefusedCallsTest::cardsFull, NONE, x -> x.ask(39));
        Due.sentence("how many it has; NONE: no such MEMBER, on it already, or 8.");
        for (int m : new int[] {5, 40, -1, GREATEST, LEAST}) {
            refused("list " + m, NONE, x -> x.list(m));
        }
        refused("list, on it already", NONE, x -> x.list(2));
        refused("list, the ninth", RefusedCallsTest::fullList, NONE, x -> x.list(8));
        Due.sentence("NONE, and nothing happens, if there would not be room for as many CARDS as the list has.");
        refused("give, no room", RefusedCallsTest::cardsFull, NONE, x -> x.give());
        refused("give, room for one of two", RefusedCallsTest::oneCardLeft, NONE, x -> x.give());
    }

    private static void telling() {
        Due.sentence("false, and nothing happens: no such CARD, CANCELLED, 600 tellings, or no such DAY.");
        for (int c : new int[] {7, 300, -1, GREATEST, LEAST}) {
            refused("arrive " + c, 0, x -> bit(x.arrive(c, 5)));
        }
        for (int day : new int[] {1, 6, -1, 2000, GREATEST, LEAST}) {
            refused("arrive on " + day, 0, x -> bit(x.arrive(0, day)));
        }
        refused("arrive, cancelled", 0, x -> bit(x.arrive(2, 5)));
        refused("arrive, cancelled, of a ring", 0, x -> bit(x.arrive(6, 5)));
        refused("arrive, the 601st", RefusedCallsTest::tellingsFull, 0, x -> bit(x.arrive(1, 0)));
        Due.sentence("false, and nothing happens: none told (or TAKEN BACK since), 600 tellings, CANCELLED.");
        for (int c : new int[] {7, 300, -1, GREATEST, LEAST}) {
            refused("back " + c, 0, x -> bit(x.back(c)));
        }
        refused("back, none told", 0, x -> bit(x.back(3)));
        refused("back, taken back since", 0, x -> bit(x.back(1)));
        refused("back, cancelled", RefusedCallsTest::cancelledBack, 0, x -> bit(x.back(0)));
        refused("back, the 601st", RefusedCallsTest::tellingsFull, 0, x -> bit(x.back(0)));
    }

    /** A card that was told to have arrived, was taken back, and is cancelled. */
    private static CardClub cancelledBack() {
        CardClub x = Scenes.club(4);
        x.ask(0);
        x.ask(0);
        x.arrive(0, 0);
        x.back(0);
        x.leave(1);
        return x;
    }

    /** Calls that only ask change nothing, whatever they are asked. */
    private static void reading() {
        Due.part("calls that ask alone");
        refused("meets", 1, x -> x.meets(1, 0));
        refused("meets, both one", NONE, x -> x.meets(1, 1));
        refused("may", 0, x -> x.may(1, 0));
        refused("may, no b", NONE, x -> x.may(0, 5));
        refused("card", NONE, x -> x.card(7, 0));
        refused("state", NONE, x -> x.state(0, 1, 5));
        refused("about", -1000, x -> x.about(5, 5));
        refused("album", NONE, x -> x.album(5));
        refused("span", NONE, x -> x.span(0, 16, 0));
        refused("ring", NONE, x -> x.ring(1, 0));
        refused("offers", NONE, x -> x.offers(6, 0));
        refused("price", NONE, x -> x.price(0, 0, 501, 5));
        refused("paid", NONE, x -> x.paid(8));
        refused("count", NONE, x -> x.count(38));
    }

    private static void offers() {
        Due.sentence("its number; NONE: there are 20, no such MEMBER there, or something is not as told (KIND k is bit k).");
        for (int m : new int[] {2, 5, -1, GREATEST, LEAST}) {
            refused("offer of " + m, NONE, x -> x.offer(m, 0, 1));
        }
        for (int kind : new int[] {32, -1, GREATEST, LEAST}) {
            refused("offer of kind " + kind, NONE, x -> x.offer(0, kind, 1));
        }
        refused("offer, the 21st", RefusedCallsTest::twentyOffers, NONE, x -> x.offer(0, 0, -1));
        Due.sentence("An OPEN OFFER is taken away: true; false, and nothing happens, for others.");
        for (int o : new int[] {6, 20, -1, GREATEST, LEAST}) {
            refused("away " + o, 0, x -> bit(x.away(o)));
        }
        refused("away, of a ring", 0, x -> bit(x.away(0)));
        refused("away, dropped out", 0, x -> bit(x.away(1)));
        refused("away, of one who left", 0, x -> bit(x.away(3)));
        Due.sentence("NONE, and nothing happens: none such, an OFFER not OPEN, or not enough CARDS left.");
        for (int k : new int[] {1, 6, -1, GREATEST, LEAST}) {
            refused("close " + k, NONE, x -> x.close(k));
        }
        refused("close, not open", RefusedCallsTest::closedOnce, NONE, x -> x.close(0));
        refused("close, one of it not open", RefusedCallsTest::oneTakenAway, NONE, x -> x.close(0));
        refused("close, no cards left", RefusedCallsTest::cardsFull, NONE, x -> x.close(0));
        refused("close, one card left", RefusedCallsTest::oneCardLeft, NONE, x -> x.close(0));
        Due.sentence("NONE, and nothing happens: none such, or he is not (any more) of it.");
        for (int ring : new int[] {1, -1, GREATEST, LEAST}) {
            refused("drop out of " + ring, NONE, x -> x.drop(ring, 1));
        }
        refused("drop out of -1, of an open offer", NONE, x -> x.drop(-1, 0));
        for (int m : new int[] {0, 2, 3, 5, -1, GREATEST, LEAST}) {
            refused("drop " + m, NONE, x -> x.drop(0, m));
        }
    }

    private static CardClub closedOnce() {
        CardClub x = busy();
        x.close(0);
        return x;
    }

    private static CardClub oneTakenAway() {
        CardClub x = busy();
        x.away(5);
        return x;
    }

    private static void stamps() {
        Due.sentence("STAMPS of a KIND are so many of a VALUE: true; false, and nothing happens, for others.");
        for (int kind : new int[] {8, -1, GREATEST, LEAST}) {
            refused("stamps of kind " + kind, 0, x -> bit(x.stamps(kind, 1, 1)));
        }
        for (int value : new int[] {0, 501, -1, GREATEST, LEAST}) {
            refused("stamps of value " + value, 0, x -> bit(x.stamps(0, value, 1)));
        }
        for (int many : new int[] {51, -1, GREATEST, LEAST}) {
            refused("stamps, so many: " + many, 0, x -> bit(x.stamps(0, 1, many)));
        }
        Due.sentence("NONE, and nothing happens, without these. (A CARD may be PAID again.)");
        for (int c : new int[] {7, 300, -1, GREATEST, LEAST}) {
            refused("pay " + c, NONE, x -> x.pay(c, 10));
        }
        for (int grams : new int[] {0, 501, -1, GREATEST, LEAST}) {
            refused("pay for " + grams, NONE, x -> x.pay(0, grams));
        }
        refused("pay, no price", -2, x -> x.pay(0, 401));
        refused("pay, the drawer hasn't as much", RefusedCallsTest::poor, -3, x -> x.pay(0, 10));
    }

    private static CardClub poor() {
        CardClub x = busy();
        x.stamps(0, 30, 1);
        x.stamps(3, 1, 30);
        return x;
    }

    /** The scenes that are full are full, and just so. */
    private static void full() {
        Due.part("the full scenes");
        Due.is("members", 40, fortyMembers().count(1));
        Due.is("bytes", 200, fullTape().count(8));
        Due.is("on the list", 8, fullList().count(9));
        Due.is("cards", 300, cardsFull().count(3));
        Due.is("cards but one", 299, oneCardLeft().count(3));
        Due.is("tellings", 600, tellingsFull().count(4));
        Due.is("offers", 20, twentyOffers().count(5));
        Due.is("rates", 10, tenRates().count(7));
    }
}
