/** A test for each sentence about days, lands and members that names an edge (terms I and III, promises 1 to 5). */
public final class EdgesOfMembersTest {
    private static final int NONE = CardClub.NONE;
    private static final int GREATEST = Integer.MAX_VALUE;
    private static final int LEAST = Integer.MIN_VALUE;

    public static void main(String[] args) {
        days();
        nowAtFirst();
        lands();
        farUntilTold();
        memberNumbers();
        tongues();
        families();
        cameAndThere();
        newObject();
        clock();
        far();
        member();
        tongueBits();
        leave();
        cardsToWhoLeaves();
        creditOfSenders();
        offersOfWhoLeaves();
        Due.endOfTest();
    }

    private static void days() {
        Due.sentence("DAYS 0 to 1999");
        CardClub x = Scenes.club(2);
        Due.no("day -1", x.clock(-1));
        Due.yes("day 0", x.clock(0));
        Due.no("day 2000", x.clock(2000));
        Due.no("the greatest number", x.clock(GREATEST));
        Due.no("the least number", x.clock(LEAST));
        Due.yes("day 1999", x.clock(1999));
        Due.is("a card on the last day", 0, x.ask(0));
        Due.is("on day 1999, as known then", 0, x.state(0, 1999, 1999));
        Due.is("as known on day 0", 0, x.state(0, 1999, 0));
        Due.is("on day 2000", NONE, x.state(0, 2000, 1999));
        Due.is("as known on day 2000", NONE, x.state(0, 1999, 2000));
        Due.is("as known on day -1", NONE, x.state(0, 1999, -1));
        Due.is("rates from day 0", 1, Due.rates(x, 0, "zone 0 1 3"));
        Due.is("rates from day 1999", 1, Due.rates(x, 1999, "zone 0 1 4"));
        Due.is("rates from day -1", NONE, Due.rates(x, -1, "zone 0 1 5"));
        Due.is("rates from day 2000", NONE, Due.rates(x, 2000, "zone 0 1 5"));
        Due.is("price on day 0", 3, x.price(0, 0, 1, 0));
        Due.is("price on day 1998", 3, x.price(0, 0, 1, 1998));
        Due.is("price on day 1999", 4, x.price(0, 0, 1, 1999));
        Due.is("price on day -1", NONE, x.price(0, 0, 1, -1));
        Due.is("price on day 2000", NONE, x.price(0, 0, 1, 2000));
    }

    private static void nowAtFirst() {
        Due.sentence("NOW (0 at first)");
        CardClub x = Scenes.club(2);
        Due.is("now", 0, x.count(0));
        Due.is("came on", 0, x.about(0, 9));
        Due.is("sent on", 0, x.card(x.ask(0), 2));
    }

    private static void lands() {
        Due.sentence("LANDS 0 to 15");
        CardClub x = new CardClub();
        Due.is("a member of land 0", 0, x.member(0, 0, NONE));
        Due.is("a member of land 15", 1, x.member(15, 0, NONE));
        Due.is("a member of land 16", NONE, x.member(16, 0, NONE));
        Due.is("a member of land -1", NONE, x.member(-1, 0, NONE));
        Due.is("far from 0 to 15", 10, x.far(0, 15, 50));
        Due.is("far from 0 to 16", NONE, x.far(0, 16, 50));
        Due.is("far from -1 to 15", NONE, x.far(-1, 15, 50));
        Due.is("span from 0 to 15", 0, x.span(0, 15, 2));
        Due.is("span from 15 to 0", 0, x.span(15, 0, 2));
        Due.is("span from 0 to 16", NONE, x.span(0, 16, 2));
        Due.is("span from -1 to 0", NONE, x.span(-1, 0, 2));
        Due.is("span from 16 to 0", NONE, x.span(16, 0, 2));
        Due.is("price from 15 to 0", -2, x.price(15, 0, 1, 0));
        Due.is("price from 16 to 0", NONE, x.price(16, 0, 1, 0));
        Due.is("price from 0 to -1", NONE, x.price(0, -1, 1, 0));
        Due.is("price from land to land of extremes", NONE, x.price(LEAST, GREATEST, 1, 0));
    }

    private static void farUntilTold() {
        Due.sentence("FAR between two of them 10 (0 to 99; 0 from one to itself) until told");
        CardClub x = new CardClub();
        x.member(0, 0, NONE);
        x.member(15, 0, NONE);
        x.member(0, 0, NONE);
        wishIsMet(x, "far 10", 1, 1);
        wishIsMet(x, "far 11", 1, 0);
        wishIsMet(x, "near 10", 1, 1);
        wishIsMet(x, "near 9", 1, 0);
        wishIsMet(x, "near 0", 2, 1);
        wishIsMet(x, "far 1", 2, 0);
        wishIsMet(x, "far 0", 2, 1);
        Due.is("0 is told", 10, x.far(0, 15, 0));
        wishIsMet(x, "near 0", 1, 1);
        wishIsMet(x, "far 1", 1, 0);
        Due.is("99 is told", 0, x.far(0, 15, 99));
        wishIsMet(x, "far 99", 1, 1);
        wishIsMet(x, "near 98", 1, 0);
        Due.is("100", NONE, x.far(0, 15, 100));
        Due.is("-1", NONE, x.far(0, 15, -1));
        Due.is("the greatest number", NONE, x.far(0, 15, GREATEST));
        Due.is("99 stays", 99, x.far(0, 15, 7));
        x = new CardClub();
        for (int a = 0; a < 16; a++) {
            for (int b = 0; b < a; b++) {
                Due.is("from " + a + " to " + b, 10, x.far(a, b, 16 * a + b < 99 ? 16 * a + b : a + b));
            }
        }
        for (int a = 0; a < 16; a++) {
            for (int b = 0; b < a; b++) {
                Due.is("from " + b + " to " + a, 16 * a + b < 99 ? 16 * a + b : a + b, x.far(b, a, 10));
            }
        }
    }

    private static void wishIsMet(CardClub x, String text, int by, int want) {
        Due.wish(x, 0, text);
        Due.is("'" + text + "' by " + by, want, x.meets(0, by));
    }

    private static void memberNumbers() {
        Due.sentence("MEMBERS 0 to 39");
        CardClub x = new CardClub();
        for (int m = 0; m < 40; m++) {
            Due.is("the next number", m, x.member(m % 16, 0, NONE));
        }
        Due.is("the 41st", NONE, x.member(0, 0, NONE));
        Due.is("land of the last", 7, x.about(39, 7));
        Due.is("nobody is 40", NONE, x.about(40, 7));
        Due.is("nobody is -1", NONE, x.about(-1, 7));
        Due.is("a card from the last to the first", 39, x.card(Scenes.swap(x, 39, 0), 0));
        Due.is("COMING of the last", 1, x.about(39, 2));
        Due.is("OUT of the last", 1, x.about(39, 3));
        x.arrive(1, 0);
        Due.is("GOT of the last", 1, x.about(39, 1));
        Due.is("the last leaves, and drops out of the ring", 1, x.leave(39));
        Due.is("his number is not free then", NONE, x.member(0, 0, NONE));
        Due.is("40 came", 40, x.count(1));
    }

    private static void tongues() {
        Due.sentence("with TONGUES (any of 16)");
        CardClub x = new CardClub();
        Due.is("one", 0, x.member(0, 1, NONE));
        Due.is("none", 1, x.member(0, 0, NONE));
        Due.is("all", 2, x.member(0, 65535, NONE));
        Due.is("a 17th", NONE, x.member(0, 65536, NONE));
        Due.is("-1", NONE, x.member(0, -1, NONE));
        Due.is("the least number", NONE, x.member(0, LEAST, NONE));
        for (int t = 0; t < 16; t++) {
            wishIsMet(x, "tongue " + t, 1, 0);
            wishIsMet(x, "tongue " + t, 2, 1);
        }
        wishIsMet(x, "shared", 1, 0);
        wishIsMet(x, "shared", 2, 1);
    }

    private static void families() {
        Due.sentence("of a FAMILY (0 to 19, or NONE: alone)");
        CardClub x = new CardClub();
        int[] of = {0, 0, 19, 19, NONE, NONE};
        for (int m = 0; m < of.length; m++) {
            Due.is("family " + of[m], m, x.member(0, 0, of[m]));
        }
        Due.is("family 20", NONE, x.member(0, 0, 20));
        Due.is("family -2", NONE, x.member(0, 0, -2));
        Due.is("both of 0", 0, x.may(0, 1));
        Due.is("both of 19", 0, x.may(2, 3));
        Due.is("of 0 and of 19", 1, x.may(0, 2));
        Due.is("both alone", 1, x.may(4, 5));
        Due.is("alone and of 0", 1, x.may(4, 0));
    }

    private static void cameAndThere() {
        Due.sentence("each came on a DAY, and is there till he leaves");
        CardClub x = Scenes.club(1);
        x.clock(1999);
        x.member(0, 0, NONE);
        Due.is("came on day 0", 0, x.about(0, 9));
        Due.is("came on day 1999", 1999, x.about(1, 9));
        Due.is("there", 1, x.about(0, 8));
        x.leave(0);
        Due.is("left", 0, x.about(0, 8));
        Due.is("the day stays", 0, x.about(0, 9));
        Due.is("the other is there", 1, x.about(1, 8));
        Due.is("one is there", 1, x.count(2));
    }

    private static void newObject() {
        Due.sentence("No MEMBERS, an empty DRAWER; DAY 0.");
        CardClub x = new CardClub();
        Due.is("now", 0, x.count(0));
        Due.is("members", 0, x.count(1));
        Due.is("there", 0, x.count(2));
        Due.is("no member 0", NONE, x.about(0, 8));
        for (int k = 0; k < 8; k++) {
            Due.is("stamps of kind " + k, 0, x.count(20 + k));
            Due.is("value of kind " + k, NONE, x.count(30 + k));
        }
    }

    private static void clock() {
        Due.sentence("NOW is a DAY, its own or a later one: true; false, and nothing happens, for others.");
        CardClub x = new CardClub();
        Due.yes("a later one", x.clock(7));
        Due.yes("its own", x.clock(7));
        Due.no("one less", x.clock(6));
        Due.is("nothing happens", 7, x.count(0));
        Due.yes("one more", x.clock(8));
        Due.no("2000", x.clock(2000));
        Due.is("nothing happens", 8, x.count(0));
    }

    private static void far() {
        Due.sentence("FAR between two LANDS, both ways: what it was; NONE, and nothing happens, for others (both one, too).");
        CardClub x = new CardClub();
        Due.is("one way", 10, x.far(3, 4, 20));
        Due.is("the other way", 20, x.far(4, 3, 30));
        Due.is("one way", 30, x.far(3, 4, 30));
        Due.is("both one", NONE, x.far(3, 3, 0));
        Due.is("both one, 10", NONE, x.far(15, 15, 10));
        Due.is("both 16", NONE, x.far(16, 16, 10));
        x.member(3, 0, NONE);
        x.member(3, 0, NONE);
        wishIsMet(x, "near 0", 1, 1);
        Due.is("no land", NONE, x.far(3, 20, 5));
        Due.is("100", NONE, x.far(3, 4, 100));
        Due.is("nothing happens", 30, x.far(4, 3, 0));
    }

    private static void member() {
        Due.sentence("A MEMBER comes NOW: the number; NONE: there are 40, or something is not as told");
        CardClub x = Scenes.club(39);
        Due.is("not as told", NONE, x.member(0, 0, 20));
        Due.is("nobody came", 39, x.count(1));
        x.clock(12);
        Due.is("the 40th", 39, x.member(0, 0, NONE));
        Due.is("came now", 12, x.about(39, 9));
        Due.is("there are 40", NONE, x.member(0, 0, NONE));
        x.leave(0);
        Due.is("40 came, though one left", NONE, x.member(0, 0, NONE));
        Due.is("40", 40, x.count(1));
    }

    private static void tongueBits() {
        Due.sentence("(TONGUE t is bit t)");
        CardClub x = new CardClub();
        x.member(0, 0, NONE);
        x.member(0, 1, NONE);
        x.member(0, 1 << 15, NONE);
        wishIsMet(x, "tongue 0", 1, 1);
        wishIsMet(x, "tongue 1", 1, 0);
        wishIsMet(x, "tongue 15", 2, 1);
        wishIsMet(x, "tongue 14", 2, 0);
        wishIsMet(x, "tongue 0", 2, 0);
    }

    private static void leave() {
        Due.sentence("A MEMBER leaves: how many CARDS are CANCELLED; NONE, and nothing happens, without him there.");
        CardClub x = Scenes.club(4);
        Due.is("member 4", NONE, x.leave(4));
        Due.is("member 5", NONE, x.leave(5));
        Due.is("member 39", NONE, x.leave(39));
        Due.is("member 40", NONE, x.leave(40));
        Due.is("member -1", NONE, x.leave(-1));
        Due.is("the greatest number", NONE, x.leave(GREATEST));
        Due.is("nothing happens", 4, x.count(2));
        x.ask(1);
        x.ask(2);
        x.ask(3);
        // 1 to 0, 2 to 1, 3 to 2.
        Due.is("no card to him", 0, x.leave(3));
        Due.is("one card to him", 1, x.leave(2));
        Due.is("again", NONE, x.leave(2));
        Due.is("no credit more for 3", 1, x.about(3, 4));
        Due.is("two are there", 2, x.count(2));
    }

    private static void cardsToWhoLeaves() {
        Due.sentence("CARDS UNDER WAY to him are CANCELLED");
        CardClub x = Scenes.club(5);
        Due.rules(x, "lost 10; strict 0");
        x.clock(5);
        sendTo4(x, 0);
        sendTo4(x, 1);
        x.clock(6);
        sendTo4(x, 2);
        x.arrive(0, 6);
        x.clock(15);
        // Card 0 arrived, card 1 is lost since today, card 2 will be tomorrow.
        Due.is("one is under way", 1, x.leave(4));
        Due.is("the one that arrived stays", NONE, x.card(0, 6));
        Due.is("the lost one stays", NONE, x.card(1, 6));
        Due.is("cancelled on", 15, x.card(2, 6));
        Due.yes("the lost one may come late after all", x.arrive(1, 15));
        Due.no("the cancelled one not", x.arrive(2, 15));
    }

    /** Strict 0: all others but 4 wish for nobody, so 4 alone may get. */
    private static void sendTo4(CardClub x, int from) {
        for (int m = 0; m < 4; m++) {
            Due.wish(x, m, m == from ? "" : "not any");
        }
        Due.is("to 4", 4, x.card(x.ask(from), 1));
    }

    private static void creditOfSenders() {
        Due.sentence("each SENDER (also one who left) has a CREDIT more");
        CardClub x = Scenes.club(3);
        x.ask(0);
        x.ask(0);
        x.ask(1);
        // 0 to 1, 0 to 2, 1 to 0.
        x.leave(0);
        Due.is("credit of 1 by the leaving of 0", 1, x.about(1, 4));
        Due.is("who leaves has none by it", 0, x.about(0, 4));
        Due.is("the card to 1", 1, x.leave(1));
        Due.is("credit of 0, who left", 1, x.about(0, 4));
        Due.is("the card to 2", 1, x.leave(2));
        Due.is("and one more", 2, x.about(0, 4));
        x = Scenes.club(3);
        x.ask(0);
        x.ask(2);
        x.arrive(0, 0);
        // 0 to 1, which arrived, and 2 to 0.
        x.leave(1);
        Due.is("no credit for one that arrived", 0, x.about(0, 4));
    }

    private static void offersOfWhoLeaves() {
        Due.sentence("His OFFERS go (see IV), and the RINGS of which he is break as if he dropped out.");
        CardClub x = Scenes.ring(3, 4);
        x.offer(0, 9, 0);
        x.offer(3, 9, 0);
        x.clock(2);
        Due.is("the card to him and the card of his", 2, x.leave(0));
        Due.is("of the ring", 2, x.offers(0, 3));
        Due.is("his open one", 2, x.offers(3, 3));
        Due.is("another's open one stays", 0, x.offers(4, 3));
        Due.is("the others stay of the ring", 1, x.offers(1, 3));
        Due.is("the card to him", 2, x.card(2, 6));
        Due.is("the card of his", 2, x.card(0, 6));
        Due.is("the others' card stays", NONE, x.card(1, 6));
        Due.is("credit of the one to whom his was to go", 1, x.about(1, 4));
        Due.is("credit of the sender", 1, x.about(2, 4));
        Due.is("he is not of it any more", NONE, x.drop(0, 0));
        Due.is("without offers", 0, x.leave(3));
    }
}
