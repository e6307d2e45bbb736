/** Clubs to begin a test with. */
final class Scenes {
    private static final int NONE = CardClub.NONE;

    private Scenes() { }

    /** So many members, all of land 0, without tongues, alone. */
    static CardClub club(int members) {
        CardClub x = new CardClub();
        for (int m = 0; m < members; m++) {
            x.member(0, 0, NONE);
        }
        return x;
    }

    /** So many members of land 0, without tongues, all of one family. */
    static CardClub family(int members, int family) {
        CardClub x = new CardClub();
        for (int m = 0; m < members; m++) {
            x.member(0, 0, family);
        }
        return x;
    }

    /**
     * Member a sends a card to b, and then b one to a, by a ring of two (no other offer may be open): the
     * number of the first card.
     */
    static int swap(CardClub x, int a, int b) {
        x.offer(a, 0, 2);
        x.offer(b, 1, 1);
        x.rings();
        return x.close(0) == NONE ? NONE : x.count(3) - 2;
    }

    /** A ring of the members 0 to length - 1, each with the offer of his number, closed: ring 0. */
    static CardClub ring(int length, int members) {
        CardClub x = club(members);
        for (int m = 0; m < length; m++) {
            x.offer(m, m, 1 << (m + length - 1) % length);
        }
        x.rings();
        x.close(0);
        return x;
    }

    /** So many cards (at most 300) of 40 members, all sent on day 0 and all under way. */
    static CardClub posted(int cards) {
        CardClub x = club(40);
        Due.rules(x, "under 20; slack 20");
        for (int c = 0; c < cards; c++) {
            x.ask(c % 40);
        }
        return x;
    }
}
