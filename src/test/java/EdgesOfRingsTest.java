/** A test for each sentence about offers and rings that names an edge (term IV, promises 22 to 28). */
public final class EdgesOfRingsTest {
    private static final int NONE = CardClub.NONE;

    public static void main(String[] args) {
        offerNumbers();
        kinds();
        twoToFive();
        unlikeMembers();
        wantedByTheNext();
        onlyOpen();
        foundAnew();
        firstTwelve();
        mostOffers();
        fewestRings();
        theFirst();
        shorterAhead();
        noRingBehindAll();
        leastThatIsLeft();
        closed();
        sentAnyway();
        dropUnderWay();
        dropCredit();
        othersStay();
        offer();
        away();
        ringsAndRing();
        close();
        closeFull();
        drop();
        offers();
        Due.endOfTest();
    }

    /** The rings found are to be these, each a text of its offers, as "0 1 2". */
    private static void found(CardClub x, String why, String... want) {
        Due.is(why + ", rings", want.length, x.rings());
        for (int k = 0; k < want.length; k++) {
            String[] ring = want[k].split(" ");
            for (int i = 0; i < ring.length; i++) {
                Due.is(why + ", ring " + k + ", offer " + i, Integer.parseInt(ring[i]), x.ring(k, i));
            }
            Due.is(why + ", ring " + k + " has no more", NONE, x.ring(k, ring.length));
        }
        Due.is(why + ", no more rings", NONE, x.ring(want.length, 0));
    }

    /** Offer i, of member i, gives kind i and wants the kinds of the offers told in its text ("1 2"). */
    private static CardClub wants(String... of) {
        CardClub x = Scenes.club(of.length);
        for (int o = 0; o < of.length; o++) {
            int wanted = 0;
            for (String kind : of[o].isEmpty() ? new String[0] : of[o].split(" ")) {
                wanted |= 1 << Integer.parseInt(kind);
            }
            x.offer(o, o, wanted);
        }
        return x;
    }

    private static void offerNumbers() {
        Due.sentence("OFFERS 0 to 19, each of a MEMBER there");
        CardClub x = Scenes.club(2);
        for (int o = 0; o < 20; o++) {
            Due.is("the next", o, x.offer(0, 0, 0));
        }
        Due.is("the 21st", NONE, x.offer(0, 0, 0));
        Due.is("20", 20, x.count(5));
        Due.is("the last is there", 0, x.offers(19, 3));
        Due.is("no offer 20", NONE, x.offers(20, 3));
        Due.yes("one is taken away", x.away(19));
        Due.is("its number is not free then", NONE, x.offer(0, 0, 0));
        x = Scenes.club(2);
        x.leave(0);
        Due.is("of one who left", NONE, x.offer(0, 0, 0));
        Due.is("of one who is there", 0, x.offer(1, 0, 0));
    }

    private static void kinds() {
        Due.sentence("a KIND (0 to 31) that he gives, and KINDS that he wants (any)");
        CardClub x = Scenes.club(2);
        Due.is("kind 32", NONE, x.offer(0, 32, 0));
        Due.is("kind -1", NONE, x.offer(0, -1, 0));
        Due.is("kind 0, wants 31", 0, x.offer(0, 0, 1 << 31));
        Due.is("kind 31, wants 0", 1, x.offer(1, 31, 1));
        found(x, "0 and 31", "0 1");
        Due.is("bit 31 alone", Integer.MIN_VALUE, x.offers(0, 2));
        x.away(0);
        Due.is("wants all but 31", 2, x.offer(0, 0, Integer.MAX_VALUE));
        found(x, "31 is not wanted");
        x.away(2);
        Due.is("wants all", 3, x.offer(0, 0, -1));
        Due.is("all", -1, x.offers(3, 2));
        found(x, "31 is wanted", "1 3");
        x.away(3);
        Due.is("wants none", 4, x.offer(0, 0, 0));
        Due.is("none", 0, x.offers(4, 2));
        found(x, "31 is not wanted");
        for (int kind = 0; kind < 32; kind++) {
            x = Scenes.club(2);
            x.offer(0, kind, 1 << (31 - kind));
            x.offer(1, 31 - kind, 1 << kind);
            found(x, "kind " + kind, "0 1");
            x = Scenes.club(2);
            x.offer(0, kind, -1);
            x.offer(1, 0, ~(1 << kind));
            found(x, "kind " + kind + " is not wanted");
        }
    }

    private static void twoToFive() {
        Due.sentence("A RING: two to five OFFERS");
        found(wants("0"), "one alone, who wants his own");
        for (int length = 2; length <= 5; length++) {
            Due.is("ring of " + length, 1, Scenes.ring(length, length).count(6));
        }
        Due.is("no ring of six", 0, Scenes.ring(6, 6).count(6));
        found(wants("4", "0", "1", "2", "3"), "five", "0 1 2 3 4");
        found(wants("5", "0", "1", "2", "3", "4"), "six");
        found(wants("5 4", "0", "1", "2", "3", "4"), "five of six", "0 1 2 3 4");
        found(wants("5", "0 2", "1", "2 4", "3", "4 0"), "six round, but three twos", "0 5", "1 2", "3 4");
    }

    private static void unlikeMembers() {
        Due.sentence("OFFERS of unlike MEMBERS, no two of one FAMILY");
        CardClub x = Scenes.club(2);
        x.offer(0, 0, 2);
        x.offer(0, 1, 1);
        found(x, "both of one member");
        x = Scenes.club(2);
        x.offer(0, 0, 1 << 2);
        x.offer(1, 1, 1 << 0);
        x.offer(0, 2, 1 << 1);
        found(x, "three, two of them of one member");
        x = Scenes.family(2, 19);
        x.offer(0, 0, 2);
        x.offer(1, 1, 1);
        found(x, "both of one family");
        x.member(0, 0, 18);
        x.offer(2, 0, 2);
        found(x, "of two families", "1 2");
        x = new CardClub();
        for (int m = 0; m < 3; m++) {
            x.member(0, 0, m == 1 ? 5 : 6);
            x.offer(m, m, 1 << (m + 2) % 3);
        }
        found(x, "0 and 2 are of one family");
        Due.is("all alone", 1, Scenes.ring(3, 3).count(6));
    }

    private static void wantedByTheNext() {
        Due.sentence("one behind the other and round, where each one's KIND is wanted by the next (its OFFER wants it)");
        found(wants("2", "0", "1"), "1 wants 0, 2 wants 1, 0 wants 2", "0 1 2");
        found(wants("1", "2", "0"), "0 wants 1, 1 wants 2, 2 wants 0", "0 2 1");
        found(wants("", "0", "1"), "not round");
        found(wants("2", "", "1"), "a gap");
        found(wants("1", ""), "one way alone");
        found(wants("", "0"), "the other way alone");
        CardClub x = Scenes.club(2);
        x.offer(0, 0, 2);
        x.offer(0, 2, 0);
        x.offer(1, 1, 4);
        // What 1 wants is given by the other offer of 0, which wants nothing.
        found(x, "wanted by another offer of the member");
    }

    private static void onlyOpen() {
        Due.sentence("Only OFFERS that are OPEN (of no RING) and were not taken away.");
        CardClub x = wants("1", "0", "0", "0");
        found(x, "0 and 1", "0 1");
        x.away(0);
        found(x, "0 was taken away");
        x = wants("1 2", "0", "0 1");
        found(x, "all three", "0 1 2");
        x.close(0);
        found(x, "all are of a ring");
        x.drop(0, 1);
        found(x, "one dropped out: his offer is taken away");
        x.offer(1, 1, 1);
        found(x, "his new one is open, but the others are not");
        x.offer(0, 0, 2);
        found(x, "both are new", "3 4");
    }

    private static void foundAnew() {
        Due.sentence("THE RINGS found: how many.");
        CardClub x = Scenes.family(2, 3);
        for (int m = 2; m < 6; m++) {
            x.member(0, 0, NONE);
        }
        x.offer(0, 0, 2);
        x.offer(1, 1, 1);
        found(x, "of one family");
        x.away(0);
        x.away(1);
        x.offer(2, 0, 2);
        x.offer(3, 1, 1);
        x.offer(4, 2, 8);
        x.offer(5, 3, 4);
        found(x, "others in their places", "2 3", "4 5");
        for (int o = 2; o < 6; o++) {
            x.away(o);
        }
        x.offer(2, 0, 1 << 2);
        x.offer(3, 1, 1 << 0 | 1 << 3);
        x.offer(4, 2, 1 << 1);
        x.offer(5, 3, 1 << 2);
        found(x, "6 7 8 or 7 8 9", "6 7 8");
        found(x, "and again", "6 7 8");
        x.away(6);
        found(x, "the other one", "7 8 9");
        x.away(8);
        found(x, "none");
    }

    private static void firstTwelve() {
        Due.sentence("THE RINGS found: among the first twelve OPEN OFFERS");
        CardClub x = Scenes.club(14);
        for (int o = 0; o < 10; o++) {
            x.offer(o, 31, 0);
        }
        x.offer(10, 0, 2);
        x.offer(11, 1, 1);
        found(x, "the eleventh and the twelfth", "10 11");
        x = Scenes.club(14);
        for (int o = 0; o < 11; o++) {
            x.offer(o, 31, 0);
        }
        x.offer(11, 0, 2);
        x.offer(12, 1, 1);
        found(x, "the twelfth and the thirteenth");
        x.away(4);
        found(x, "one ahead is not open any more", "11 12");
        x = Scenes.club(14);
        for (int o = 0; o < 14; o++) {
            x.offer(o, o, -1);
        }
        found(x, "all want all, twelve of them", "0 1", "2 3 4 5 6", "7 8 9 10 11");
        x.away(0);
        found(x, "the next twelve", "1 2", "3 4 5 6 7", "8 9 10 11 12");
        x.away(13);
        x.away(12);
        found(x, "eleven", "1 2", "3 4 5 6", "7 8 9 10 11");
        x = Scenes.club(12);
        for (int o = 0; o < 12; o++) {
            x.offer(o, o, 1 << (11 - o));
        }
        found(x, "six rings of two", "0 11", "1 10", "2 9", "3 8", "4 7", "5 6");
    }

    private static void mostOffers() {
        Due.sentence("RINGS that have no OFFER in common: the most OFFERS in all");
        found(wants("1 2", "0 3", "0", "1"), "four in two rings, not two in one", "0 2", "1 3");
        found(wants("1", "0 3", "1", "2"), "three in one ring, not two in the first", "1 2 3");
        found(wants("1", "0 2", "1 3", "2"), "four in two", "0 1", "2 3");
        found(wants("1 4", "0", "1", "2", "3"), "five in one", "0 1 2 3 4");
    }

    private static void fewestRings() {
        Due.sentence("then the fewest RINGS");
        found(wants("1 3", "0", "1 3", "2"), "one of four, not two of two", "0 1 2 3");
        found(wants("1 2 3", "0 2 3", "0 1 3", "0 1 2"), "all want all: one of four", "0 1 2 3");
    }

    private static void theFirst() {
        Due.sentence("then the first: the least OFFER the RING that begins with it and is the first by the OFFERS behind it");
        found(wants("1 2", "0", "0"), "0 with 1 or with 2", "0 1");
        found(wants("1 2", "0 2", "0 1"), "0 1 2 or 0 2 1", "0 1 2");
        found(wants("3 2", "0", "0 1", "0 1"), "0 1 2 or 0 1 3 or 0 2 or 0 3", "0 1 2");
        found(wants("2 3", "", "0", "0"), "0 2 or 0 3", "0 2");
    }

    private static void shorterAhead() {
        Due.sentence("(a shorter one that is alike so far ahead)");
        String all = "0 1 2 3 4 5";
        found(wants(all, all, all, all, all, all), "six in two rings: 0 1 ahead of 0 1 2", "0 1", "2 3 4 5");
        String more = "0 1 2 3 4 5 6";
        found(wants(more, more, more, more, more, more, more), "seven in two", "0 1", "2 3 4 5 6");
        more = "0 1 2 3 4 5 6 7";
        found(wants(more, more, more, more, more, more, more, more), "eight in two", "0 1 2", "3 4 5 6 7");
    }

    private static void noRingBehindAll() {
        Due.sentence("an OFFER of no RING behind all RINGS that it could begin");
        found(wants("1", "0 2", "1"), "0 1 ahead of 1 2", "0 1");
        found(wants("3", "2", "1 3", "2 0"), "four in 0 3 and 1 2", "0 3", "1 2");
        found(wants("2", "2", "0 1"), "0 2 ahead of 1 2", "0 2");
        found(wants("4", "2", "1", "4", "3 0"), "0 4 ahead of 3 4; then 1 2", "0 4", "1 2");
    }

    private static void leastThatIsLeft() {
        Due.sentence("and so on with the least OFFER that is left. (A RING begins with its least OFFER.)");
        found(wants("5", "4", "3", "2", "1", "0"), "0 5, 1 4, 2 3", "0 5", "1 4", "2 3");
        found(wants("5", "4 3", "4 3", "1 2", "1 2", "0"), "0 5, then four in one", "0 5", "1 3 2 4");
        found(wants("", "", "4", "2", "3"), "2 is the least of it", "2 3 4");
        found(wants("", "", "3", "4", "2"), "2 is the least of it", "2 4 3");
    }

    private static void closed() {
        Due.sentence("CLOSED: RING k of those found last becomes one, if all its OFFERS are OPEN still");
        CardClub x = wants("1", "0", "3", "2");
        found(x, "two", "0 1", "2 3");
        Due.is("the second first", 0, x.close(1));
        Due.is("it is not open any more", NONE, x.close(1));
        Due.is("the first is still", 1, x.close(0));
        Due.is("from 2", 2, x.card(0, 0));
        Due.is("to 3", 3, x.card(0, 1));
        Due.is("from 3", 3, x.card(1, 0));
        Due.is("round to 2", 2, x.card(1, 1));
        Due.is("from 0", 0, x.card(2, 0));
        Due.is("of ring", 1, x.card(2, 5));
        x = wants("1", "0", "3", "2");
        x.rings();
        x.leave(3);
        Due.is("3 left", NONE, x.close(1));
        Due.is("2 is open", 0, x.offers(2, 3));
        Due.is("the other one", 0, x.close(0));
        x = wants("1", "0", "3", "2");
        x.rings();
        x.away(0);
        Due.is("the first of it was taken away", NONE, x.close(0));
        x.rings();
        Due.is("found last", 0, x.close(0));
        Due.is("from 2", 2, x.card(0, 0));
    }

    private static void sentAnyway() {
        Due.sentence("a CARD is SENT NOW from each one's MEMBER to the next one's (whatever MAY ASK and MAY GET say).");
        CardClub x = Scenes.club(3);
        Due.rules(x, "under 1; slack 0; strict 0");
        Due.wish(x, 0, "not any");
        Due.wish(x, 1, "not any");
        x.clock(9);
        for (int ring = 0; ring < 3; ring++) {
            Due.is("may get", 0, x.may(0, 1));
            Due.is("the first card of ring " + ring, 2 * ring, Scenes.swap(x, 0, 1));
            Due.is("may ask", 0, x.about(0, 6));
            Due.is("from", 0, x.card(2 * ring, 0));
            Due.is("to", 1, x.card(2 * ring, 1));
            Due.is("round from", 1, x.card(2 * ring + 1, 0));
            Due.is("round to", 0, x.card(2 * ring + 1, 1));
            Due.is("sent now", 9, x.card(2 * ring + 1, 2));
        }
        Due.is("OUT", 3, x.about(0, 3));
    }

    private static void dropUnderWay() {
        Due.sentence("DROPPING OUT of a RING: the CARD of his OFFER there, if it is UNDER WAY, is CANCELLED");
        CardClub x = Scenes.club(2);
        Due.rules(x, "lost 10");
        Scenes.swap(x, 0, 1);
        x.clock(9);
        Due.is("on the ninth day it is", 1, x.drop(0, 0));
        Due.is("cancelled", 9, x.card(0, 6));
        x.clock(10);
        Due.is("on the tenth it is lost", 0, x.drop(0, 1));
        Due.is("not cancelled", NONE, x.card(1, 6));
        Due.is("but his offer is taken away", 2, x.offers(1, 3));
        x = Scenes.club(3);
        Scenes.swap(x, 0, 1);
        x.arrive(0, 0);
        Due.is("it arrived", 0, x.drop(0, 0));
        Due.is("not cancelled", NONE, x.card(0, 6));
        x.arrive(1, 0);
        x.back(1);
        Due.is("taken back it is under way", 1, x.drop(0, 1));
        Scenes.swap(x, 0, 1);
        x.leave(1);
        Due.is("it was cancelled already", 0, x.drop(1, 0));
    }

    private static void dropCredit() {
        Due.sentence("and the one to whom it was to go has a CREDIT more (if he is there)");
        CardClub x = Scenes.ring(3, 3);
        x.drop(0, 0);
        Due.is("credit of 1", 1, x.about(1, 4));
        Due.is("credit of 0", 0, x.about(0, 4));
        Due.is("credit of 2", 0, x.about(2, 4));
        x = Scenes.ring(3, 3);
        x.arrive(0, 0);
        x.drop(0, 0);
        Due.is("no credit for one that arrived", 0, x.about(1, 4));
        x = Scenes.ring(2, 2);
        x.arrive(0, 0);
        x.leave(1);
        x.back(0);
        // The card from 0 came to 1 ahead of his leaving, so it was not cancelled; now it is under way again.
        Due.is("under way to one who left", 1, x.drop(0, 0));
        Due.is("no credit, for he is not there", 0, x.about(1, 4));
        x = Scenes.ring(2, 2);
        x.leave(0);
        Due.is("credit of 1: for the card to 0, and for the one from 0", 2, x.about(1, 4));
        Due.is("1 drops out, too", 0, x.drop(0, 1));
        Due.is("no credit for one who left", 0, x.about(0, 4));
    }

    private static void othersStay() {
        Due.sentence("his OFFER is taken away. (The others' CARDS stay.)");
        CardClub x = Scenes.ring(4, 4);
        x.clock(1);
        x.drop(0, 2);
        for (int o = 0; o < 4; o++) {
            Due.is("offer " + o, o == 2 ? 2 : 1, x.offers(o, 3));
            Due.is("card " + o, o == 2 ? 1 : NONE, x.card(o, 6));
            Due.is("state " + o, o == 2 ? 4 : 0, x.state(o, 1, 1));
        }
        Due.is("rings closed stay", 1, x.count(6));
    }

    private static void offer() {
        Due.sentence("An OFFER: its number; NONE: there are 20, no such MEMBER there, or something is not as told (KIND k is bit k).");
        CardClub x = Scenes.club(2);
        Due.is("no member 2", NONE, x.offer(2, 0, 0));
        Due.is("no member 3", NONE, x.offer(3, 0, 0));
        Due.is("no member 39", NONE, x.offer(39, 0, 0));
        Due.is("no member 40", NONE, x.offer(40, 0, 0));
        Due.is("no member -1", NONE, x.offer(-1, 0, 0));
        Due.is("kind 32", NONE, x.offer(0, 32, 0));
        Due.is("kind -1", NONE, x.offer(0, -1, 0));
        Due.is("kind, the greatest number", NONE, x.offer(0, Integer.MAX_VALUE, 0));
        Due.is("none", 0, x.count(5));
        Due.is("its number", 0, x.offer(0, 31, -1));
        Due.is("its number", 1, x.offer(0, 0, 0));
        x.leave(1);
        Due.is("who left", NONE, x.offer(1, 0, 0));
        for (int o = 2; o < 20; o++) {
            x.offer(0, 0, 0);
        }
        Due.is("there are 20", NONE, x.offer(0, 0, 0));
        Due.is("20", 20, x.count(5));
    }

    private static void away() {
        Due.sentence("An OPEN OFFER is taken away: true; false, and nothing happens, for others.");
        CardClub x = Scenes.ring(2, 3);
        x.offer(2, 0, 0);
        x.offer(2, 1, 0);
        Due.no("of a ring", x.away(0));
        Due.is("nothing happens", 1, x.offers(0, 3));
        Due.is("nothing happens", 0, x.offers(0, 4));
        Due.yes("open", x.away(2));
        Due.no("taken away", x.away(2));
        Due.no("no offer 4", x.away(4));
        Due.no("no offer 5", x.away(5));
        Due.no("no offer 19", x.away(19));
        Due.no("no offer -1", x.away(-1));
        Due.no("the greatest number", x.away(Integer.MAX_VALUE));
        x.drop(0, 0);
        Due.no("dropped out", x.away(0));
        Due.is("the other is open", 0, x.offers(3, 3));
        x.leave(2);
        Due.no("of one who left", x.away(3));
    }

    private static void ringsAndRing() {
        Due.sentence("OFFER i of RING k found last (from its least one on); NONE.");
        CardClub x = new CardClub();
        Due.is("none looked for", NONE, x.ring(0, 0));
        Due.is("without offers", 0, x.rings());
        Due.is("none found", NONE, x.ring(0, 0));
        x = wants("1", "0", "3", "2");
        Due.is("not looked for yet", NONE, x.ring(0, 0));
        found(x, "two", "0 1", "2 3");
        int[] none = {-1, 2, 3, 5, 6, 100, Integer.MAX_VALUE, Integer.MIN_VALUE};
        for (int n : none) {
            Due.is("offer " + n, NONE, x.ring(0, n));
            Due.is("ring " + n, NONE, x.ring(n, 0));
        }
        x.away(0);
        Due.is("found last", 0, x.ring(0, 0));
        x.close(1);
        Due.is("found last", 2, x.ring(1, 0));
        found(x, "none now");
        Due.is("forgotten", NONE, x.ring(0, 0));
        x = wants("1", "0", "3", "2", "5", "4");
        found(x, "three", "0 1", "2 3", "4 5");
        x.away(0);
        x.away(2);
        found(x, "one", "4 5");
        Due.is("the second is forgotten", NONE, x.ring(1, 0));
        Due.is("the third is forgotten", NONE, x.ring(2, 0));
        Due.is("and can't be closed", NONE, x.close(2));
    }

    private static void close() {
        Due.sentence("RING k found last is CLOSED: its number as CLOSED (0, 1, ..); NONE, and nothing happens: none such,"
                + " an OFFER not OPEN, or not enough CARDS left.");
        CardClub x = wants("1", "0");
        Due.is("not looked for yet", NONE, x.close(0));
        x.rings();
        Due.is("ring 1", NONE, x.close(1));
        Due.is("ring -1", NONE, x.close(-1));
        Due.is("the greatest number", NONE, x.close(Integer.MAX_VALUE));
        Due.is("nothing happens", 0, x.count(6));
        Due.is("ring 0", 0, x.close(0));
        Due.is("its offers are not open", NONE, x.close(0));
        Due.is("nothing happens", 1, x.count(6));
        Due.is("nothing happens", 2, x.count(3));
        x.drop(0, 0);
        x.drop(0, 1);
        Due.is("its offers are taken away", NONE, x.close(0));
        for (int ring = 1; ring < 10; ring++) {
            Scenes.swap(x, 0, 1);
            Due.is("the next number", ring, x.card(2 * ring, 5));
        }
        Due.is("ten rings", 10, x.count(6));
    }

    private static void closeFull() {
        Due.sentence("or not enough CARDS left");
        CardClub x = Scenes.posted(298);
        Due.is("two, and room for two", 298, Scenes.swap(x, 0, 1));
        Due.is("no room", NONE, Scenes.swap(x, 0, 1));
        x = Scenes.posted(299);
        Due.is("two, and room for one", NONE, Scenes.swap(x, 0, 1));
        Due.is("nothing happens", 299, x.count(3));
        Due.is("nothing happens", 0, x.count(6));
        Due.is("nothing happens", 0, x.offers(0, 3));
        x = Scenes.posted(296);
        for (int m = 0; m < 5; m++) {
            x.offer(m, m, 1 << (m + 4) % 5);
        }
        Due.is("a ring of five", 1, x.rings());
        Due.is("and room for four", NONE, x.close(0));
        x = Scenes.posted(295);
        for (int m = 0; m < 5; m++) {
            x.offer(m, m, 1 << (m + 4) % 5);
        }
        Due.is("a ring of five", 1, x.rings());
        Due.is("and room for five", 0, x.close(0));
        Due.is("300", 300, x.count(3));
    }

    private static void drop() {
        Due.sentence("A MEMBER drops out of a RING as CLOSED: 1 if his CARD was CANCELLED, 0 if it wasn't UNDER WAY;"
                + " NONE, and nothing happens: none such, or he is not (any more) of it.");
        CardClub x = Scenes.club(4);
        Due.is("no ring yet", NONE, x.drop(0, 0));
        x.offer(3, 7, 0);
        Due.is("ring -1", NONE, x.drop(-1, 3));
        Due.is("nothing happens", 0, x.offers(0, 3));
        x.away(0);
        Due.is("ring -1, taken away", NONE, x.drop(-1, 3));
        Scenes.swap(x, 0, 1);
        Scenes.swap(x, 1, 2);
        Due.is("not of ring 1", NONE, x.drop(1, 0));
        Due.is("not of ring 0", NONE, x.drop(0, 2));
        Due.is("of no ring", NONE, x.drop(0, 3));
        Due.is("ring 2", NONE, x.drop(2, 0));
        Due.is("no member 4", NONE, x.drop(0, 4));
        Due.is("no member -1", NONE, x.drop(0, -1));
        Due.is("the greatest number", NONE, x.drop(Integer.MAX_VALUE, 0));
        Due.is("of both", 1, x.drop(1, 1));
        Due.is("of ring 0 still", 1, x.offers(2, 3));
        Due.is("not any more", NONE, x.drop(1, 1));
        Due.is("of ring 0", 1, x.drop(0, 1));
        x.arrive(0, 0);
        Due.is("arrived", 0, x.drop(0, 0));
        Due.is("not any more", NONE, x.drop(0, 0));
        x.leave(2);
        Due.is("who left is not of it any more", NONE, x.drop(1, 2));
    }

    private static void offers() {
        Due.sentence("Of an OFFER what 0: the MEMBER, 1: KIND, 2: KINDS wanted, 3: 0 OPEN, 1 of a RING, 2 taken away,"
                + " 4: the RING as CLOSED (NONE). NONE without it, or for another what.");
        CardClub x = Scenes.ring(2, 3);
        x.offer(2, 31, -2);
        int[][] want = {{0, 0, 2, 1, 0}, {1, 1, 1, 1, 0}, {2, 31, -2, 0, NONE}};
        for (int o = 0; o < want.length; o++) {
            for (int what = 0; what < 5; what++) {
                Due.is("offer " + o + ", what " + what, want[o][what], x.offers(o, what));
            }
        }
        for (int what = 0; what < 5; what++) {
            Due.is("offer 3, what " + what, NONE, x.offers(3, what));
            Due.is("offer 4, what " + what, NONE, x.offers(4, what));
            Due.is("offer 19, what " + what, NONE, x.offers(19, what));
            Due.is("offer -1, what " + what, NONE, x.offers(-1, what));
            Due.is("offer 20, what " + what, NONE, x.offers(20, what));
        }
        Due.is("what 5", NONE, x.offers(0, 5));
        Due.is("what -1", NONE, x.offers(0, -1));
        Due.is("what, the greatest number", NONE, x.offers(0, Integer.MAX_VALUE));
        x.away(2);
        Due.is("taken away", 2, x.offers(2, 3));
        Due.is("the member stays", 2, x.offers(2, 0));
    }
}
