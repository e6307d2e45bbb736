/** A test for each sentence about cards that names an edge (terms II and III, promises 15 to 21). */
public final class EdgesOfCardsTest {
    private static final int NONE = CardClub.NONE;
    private static final int UNDER_WAY = 0;
    private static final int ARRIVED = 1;
    private static final int LOST = 2;
    private static final int LATE = 3;
    private static final int CANCELLED = 4;

    public static void main(String[] args) {
        notAheadOfSending();
        arrived();
        latestTelling();
        takenBack();
        late();
        lost();
        cancelled();
        boundOfLastTen();
        boundInTheOrderTold();
        boundOfLands();
        boundIsTwice();
        given();
        got();
        comingAndOut();
        credit();
        owed();
        dayOfArrival();
        knownFromNowOn();
        toldAnew();
        sixHundred();
        span();
        arrive();
        back();
        card();
        state();
        about();
        album();
        spanAnswers();
        Due.endOfTest();
    }

    /** Of two members 0 sends to 1 on day 100; BOUND is 10. */
    private static CardClub sentOnDay100() {
        CardClub x = Scenes.club(2);
        Due.rules(x, "lost 10");
        x.clock(100);
        x.ask(0);
        return x;
    }

    private static void notAheadOfSending() {
        Due.sentence("on a DAY d (not ahead of the one on which it was SENT)");
        CardClub x = sentOnDay100();
        Due.is("on the day", UNDER_WAY, x.state(0, 100, 100));
        Due.is("a day ahead", NONE, x.state(0, 99, 100));
        Due.is("on day 0", NONE, x.state(0, 0, 100));
        Due.is("as known a day ahead", UNDER_WAY, x.state(0, 100, 99));
        Due.is("as known on day 0", UNDER_WAY, x.state(0, 100, 0));
    }

    private static void arrived() {
        Due.sentence("ARRIVED, if an arrival is KNOWN by k that was not behind d");
        CardClub x = sentOnDay100();
        x.clock(108);
        x.arrive(0, 105);
        Due.is("on its day, as known that day", ARRIVED, x.state(0, 105, 108));
        Due.is("a day ahead", UNDER_WAY, x.state(0, 104, 108));
        Due.is("as known a day ahead", UNDER_WAY, x.state(0, 105, 107));
        Due.is("as known later", ARRIVED, x.state(0, 105, 1999));
        Due.is("on later days", ARRIVED, x.state(0, 1999, 108));
        Due.is("lost, as known a day ahead", LOST, x.state(0, 1999, 107));
    }

    private static void latestTelling() {
        Due.sentence("its latest telling by k counts");
        CardClub x = sentOnDay100();
        x.clock(106);
        x.arrive(0, 102);
        x.clock(108);
        x.arrive(0, 104);
        x.arrive(0, 103);
        Due.is("the first, a day ahead of the later ones", ARRIVED, x.state(0, 102, 107));
        Due.is("not any more", UNDER_WAY, x.state(0, 102, 108));
        Due.is("of one day the last told", ARRIVED, x.state(0, 103, 108));
        Due.is("now", 103, x.card(0, 4));
    }

    private static void takenBack() {
        Due.sentence("one that was TAKEN BACK by k is none");
        CardClub x = sentOnDay100();
        x.clock(104);
        x.arrive(0, 102);
        x.clock(105);
        x.arrive(0, 103);
        x.clock(107);
        x.back(0);
        Due.is("a day ahead", ARRIVED, x.state(0, 103, 106));
        Due.is("from its day on", UNDER_WAY, x.state(0, 103, 107));
        Due.is("the first does not count again", UNDER_WAY, x.state(0, 109, 107));
        Due.is("lost", LOST, x.state(0, 110, 107));
        x.arrive(0, 101);
        Due.is("told again on the same day", ARRIVED, x.state(0, 101, 107));
    }

    private static void late() {
        Due.sentence("such a one is LATE if it came BOUND DAYS or more behind the SENDING");
        CardClub x = sentOnDay100();
        x.clock(150);
        x.arrive(0, 109);
        Due.is("9 days", ARRIVED, x.state(0, 150, 150));
        x.arrive(0, 110);
        Due.is("10 days", LATE, x.state(0, 150, 150));
        Due.is("on its day", LATE, x.state(0, 110, 150));
        Due.is("a day ahead of it", UNDER_WAY, x.state(0, 109, 150));
        x.arrive(0, 112);
        Due.is("12 days", LATE, x.state(0, 112, 150));
        Due.is("a day ahead of it", LOST, x.state(0, 111, 150));
        x.arrive(0, 100);
        Due.is("0 days", ARRIVED, x.state(0, 100, 150));
        Due.rules(x, "lost 1");
        x.member(0, 0, NONE);
        x.ask(2);
        x.arrive(1, 150);
        Due.is("BOUND 1, 0 days", ARRIVED, x.state(1, 150, 150));
        x.clock(151);
        x.arrive(1, 151);
        Due.is("BOUND 1, 1 day", LATE, x.state(1, 151, 151));
    }

    private static void lost() {
        Due.sentence("else LOST, if d is BOUND DAYS or more behind it; else UNDER WAY");
        CardClub x = sentOnDay100();
        Due.is("9 days", UNDER_WAY, x.state(0, 109, 100));
        Due.is("10 days", LOST, x.state(0, 110, 100));
        Due.is("11 days", LOST, x.state(0, 111, 100));
        Due.is("on the last day", LOST, x.state(0, 1999, 100));
        Due.is("BOUND", 10, x.card(0, 3));
        x.clock(109);
        Due.is("OUT", 1, x.about(0, 3));
        Due.is("LOST", 0, x.about(0, 10));
        x.clock(110);
        Due.is("OUT", 0, x.about(0, 3));
        Due.is("LOST", 1, x.about(0, 10));
        x = Scenes.club(2);
        Due.rules(x, "lost 400");
        x.clock(1999);
        x.ask(0);
        Due.is("sent on the last day", UNDER_WAY, x.state(0, 1999, 1999));
    }

    private static void cancelled() {
        Due.sentence("A CARD CANCELLED on a DAY (KNOWN from it on) is that from it on, whatever else.");
        CardClub x = sentOnDay100();
        x.clock(103);
        x.arrive(0, 101);
        x.clock(104);
        x.back(0);
        x.clock(106);
        x.leave(1);
        Due.is("on its day, as known that day", CANCELLED, x.state(0, 106, 106));
        Due.is("a day ahead", UNDER_WAY, x.state(0, 105, 106));
        Due.is("as known a day ahead", UNDER_WAY, x.state(0, 106, 105));
        Due.is("lost, as known a day ahead", LOST, x.state(0, 110, 105));
        Due.is("arrived, as known before", ARRIVED, x.state(0, 106, 103));
        Due.is("not lost any more", CANCELLED, x.state(0, 110, 106));
        Due.is("on the last day", CANCELLED, x.state(0, 1999, 1999));
        Due.is("ahead of its sending", NONE, x.state(0, 99, 1999));
    }

    /** Of so many members, all of land 0, the first sends so many cards on day 0, with lost 400; then it is day 100. */
    private static CardClub sentOnDay0(int cards) {
        CardClub x = Scenes.club(cards + 4);
        Due.rules(x, "under 20; slack 20; lost 400");
        for (int c = 0; c < cards; c++) {
            x.ask(0);
        }
        x.clock(100);
        return x;
    }

    private static void boundOfLastTen() {
        Due.sentence("by the last ten ARRIVALS");
        CardClub x = sentOnDay0(11);
        x.arrive(0, 90);
        for (int c = 1; c < 10; c++) {
            x.arrive(c, 10);
        }
        Due.is("the greatest is the tenth from the last", 187, x.card(x.ask(0), 3));
        Due.is("ten", 10, x.span(0, 0, 2));
        x.arrive(10, 10);
        Due.is("the greatest is the eleventh from the last", 27, x.card(x.ask(0), 3));
        Due.is("ten", 10, x.span(0, 0, 2));
    }

    private static void boundInTheOrderTold() {
        Due.sentence("(as KNOWN then, NOW; in the order told; TAKEN BACK ones are none)");
        CardClub x = sentOnDay0(11);
        for (int c = 0; c < 11; c++) {
            x.arrive(c, 90 - c);
        }
        Due.is("greatest, without card 0", 89, x.span(0, 0, 1));
        Due.is("least", 80, x.span(0, 0, 0));
        x.arrive(0, 60);
        Due.is("card 0 told anew is the last, card 1 is out", 88, x.span(0, 0, 1));
        Due.is("least", 60, x.span(0, 0, 0));
        Due.is("BOUND", 2 * 88 + 7, x.card(x.ask(0), 3));
        x.back(2);
        Due.is("card 2 taken back, card 1 is in", 89, x.span(0, 0, 1));
        Due.is("ten still", 10, x.span(0, 0, 2));
        x.back(1);
        Due.is("nine", 9, x.span(0, 0, 2));
        Due.is("greatest", 87, x.span(0, 0, 1));
        x.arrive(1, 3);
        Due.is("told again it counts again", 10, x.span(0, 0, 2));
        Due.is("least", 3, x.span(0, 0, 0));
        Due.is("the BOUND of the one sent stays", 2 * 88 + 7, x.card(11, 3));
    }

    private static void boundOfLands() {
        Due.sentence("from the LAND of the one to that of the other");
        CardClub x = new CardClub();
        x.member(0, 0, NONE);
        x.member(15, 0, NONE);
        Due.rules(x, "slack 20; lost 400");
        x.ask(0);
        x.clock(20);
        x.arrive(0, 20);
        x.member(0, 0, NONE);
        x.member(15, 0, NONE);
        x.leave(0);
        x.leave(1);
        Due.is("from 15 to 0", 400, x.card(x.ask(3), 3));
        Due.is("from 0 to 15", 47, x.card(x.ask(2), 3));
        Due.is("from 0 to 0", 0, x.span(0, 0, 2));
        Due.is("from 0 to 15, though both left", 1, x.span(0, 15, 2));
        Due.is("from 15 to 0", 0, x.span(15, 0, 2));
    }

    private static void boundIsTwice() {
        Due.sentence("twice the greatest of their DAYS and 7, lost at most; without any: lost.");
        boundWith(27, 9, 25);
        boundWith(27, 10, 27);
        boundWith(27, 11, 27);
        boundWith(400, 0, 7);
        boundWith(400, 1, 9);
        boundWith(7, 0, 7);
        boundWith(6, 0, 6);
        boundWith(1, 0, 1);
        boundWith(400, 196, 399);
        boundWith(400, 197, 400);
        boundWith(400, 1999, 400);
        boundWith(400, NONE, 400);
        boundWith(1, NONE, 1);
        boundWith(60, NONE, 60);
    }

    /** A card that is sent when one took so many days (NONE: none arrived). */
    private static void boundWith(int lost, int days, int want) {
        CardClub x = Scenes.club(3);
        x.ask(0);
        x.clock(1999);
        if (days != NONE) {
            x.arrive(0, days);
        }
        Due.rules(x, "lost " + lost);
        Due.is("lost " + lost + ", days " + days, want, x.card(x.ask(0), 3));
    }

    private static void given() {
        Due.sentence("GIVEN: his CARDS that ARRIVED (LATE, too)");
        CardClub x = sentOnDay100();
        aboutIs(x, 0, 0, 0);
        x.clock(109);
        x.arrive(0, 109);
        aboutIs(x, 0, 0, 1);
        x.back(0);
        aboutIs(x, 0, 0, 0);
        x.clock(110);
        x.arrive(0, 110);
        Due.is("late", LATE, x.state(0, 110, 110));
        aboutIs(x, 0, 0, 1);
        aboutIs(x, 1, 0, 0);
    }

    private static void aboutIs(CardClub x, int member, int what, int want) {
        Due.is("about " + member + ", what " + what, want, x.about(member, what));
    }

    private static void got() {
        Due.sentence("GOT: those to him that ARRIVED");
        CardClub x = sentOnDay100();
        aboutIs(x, 1, 1, 0);
        x.arrive(0, 100);
        aboutIs(x, 1, 1, 1);
        aboutIs(x, 0, 1, 0);
        x.clock(110);
        x.arrive(0, 110);
        aboutIs(x, 1, 1, 1);
        x.back(0);
        aboutIs(x, 1, 1, 0);
    }

    private static void comingAndOut() {
        Due.sentence("COMING: those to him UNDER WAY; OUT: his that are UNDER WAY");
        CardClub x = sentOnDay100();
        comingAndOutAre(x, 1);
        x.clock(109);
        comingAndOutAre(x, 1);
        x.clock(110);
        comingAndOutAre(x, 0);
        x.arrive(0, 109);
        comingAndOutAre(x, 0);
        x = sentOnDay100();
        x.arrive(0, 100);
        comingAndOutAre(x, 0);
        x.back(0);
        comingAndOutAre(x, 1);
        x.leave(1);
        comingAndOutAre(x, 0);
    }

    private static void comingAndOutAre(CardClub x, int want) {
        aboutIs(x, 0, 3, want);
        aboutIs(x, 1, 2, want);
        aboutIs(x, 0, 2, 0);
        aboutIs(x, 1, 3, 0);
    }

    private static void credit() {
        Due.sentence("CREDIT: see IV.");
        CardClub x = Scenes.club(2);
        aboutIs(x, 0, 4, 0);
        Scenes.swap(x, 0, 1);
        x.drop(0, 0);
        aboutIs(x, 0, 4, 0);
        aboutIs(x, 1, 4, 1);
        aboutIs(x, 1, 5, 1);
    }

    private static void owed() {
        Due.sentence("OWED: GIVEN and CREDIT less GOT less COMING.");
        CardClub x = Scenes.club(3);
        aboutIs(x, 0, 5, 0);
        int c = Scenes.swap(x, 0, 1);
        aboutIs(x, 0, 5, -1);
        x.arrive(c, 0);
        aboutIs(x, 0, 5, 0);
        x.arrive(c + 1, 0);
        aboutIs(x, 0, 5, 0);
        x.back(c + 1);
        x.clock(60);
        Due.is("lost", LOST, x.state(c + 1, 60, 60));
        aboutIs(x, 0, 5, 1);
        Scenes.swap(x, 0, 2);
        aboutIs(x, 0, 5, 0);
        x.leave(2);
        // One given, and two credits: for the card to 2, and for the one that was to come from him.
        aboutIs(x, 0, 5, 3);
        aboutIs(x, 1, 5, -1);
    }

    private static void dayOfArrival() {
        Due.sentence("AN ARRIVAL of a CARD is told: on a DAY from its SENDING to NOW");
        CardClub x = sentOnDay100();
        Due.no("a day ahead of the sending", x.arrive(0, 99));
        Due.no("a day behind now", x.arrive(0, 101));
        Due.yes("on the day of the sending, now", x.arrive(0, 100));
        x.clock(103);
        Due.no("a day ahead of the sending", x.arrive(0, 99));
        Due.no("a day behind now", x.arrive(0, 104));
        Due.is("as told ahead", 100, x.card(0, 4));
        Due.yes("now", x.arrive(0, 103));
        Due.is("as told now", 103, x.card(0, 4));
        Due.no("-1", x.arrive(0, -1));
        Due.no("2000", x.arrive(0, 2000));
        x.clock(1999);
        Due.yes("on the last day", x.arrive(0, 1999));
        Due.no("2000, on the last day", x.arrive(0, 2000));
    }

    private static void knownFromNowOn() {
        Due.sentence("KNOWN from NOW on");
        CardClub x = sentOnDay100();
        x.clock(105);
        x.arrive(0, 101);
        Due.is("a day ahead", UNDER_WAY, x.state(0, 105, 104));
        Due.is("from now on", ARRIVED, x.state(0, 105, 105));
        Due.is("on days ahead of now, as known now", ARRIVED, x.state(0, 101, 105));
    }

    private static void toldAnew() {
        Due.sentence("told anew the last telling counts from then on; TAKEN BACK from NOW on.");
        CardClub x = sentOnDay100();
        x.clock(103);
        x.arrive(0, 103);
        x.clock(105);
        x.arrive(0, 101);
        Due.is("a day ahead", UNDER_WAY, x.state(0, 102, 104));
        Due.is("from then on", ARRIVED, x.state(0, 102, 105));
        x.clock(107);
        x.back(0);
        Due.is("a day ahead", ARRIVED, x.state(0, 102, 106));
        Due.is("from now on", UNDER_WAY, x.state(0, 102, 107));
        Due.is("the day", NONE, x.card(0, 4));
    }

    private static void sixHundred() {
        Due.sentence("600 tellings and takings back at most in all.");
        CardClub x = Scenes.club(3);
        x.ask(0);
        x.ask(0);
        for (int i = 0; i < 599; i++) {
            Due.yes("telling " + i, i % 2 == 0 ? x.arrive(0, 0) : x.back(0));
        }
        Due.is("599", 599, x.count(4));
        Due.yes("the last, of another card", x.arrive(1, 0));
        Due.no("the 601st", x.arrive(1, 0));
        Due.no("a taking back", x.back(0));
        Due.no("a taking back", x.back(1));
        Due.is("600", 600, x.count(4));
        Due.is("nothing happens", 0, x.card(0, 4));
        Due.is("nothing happens", 0, x.card(1, 4));
    }

    private static void span() {
        Due.sentence("SPAN of DAYS between two LANDS: least and greatest of the last ten ARRIVALS as above.");
        CardClub x = sentOnDay0(12);
        x.arrive(0, 1);
        x.arrive(1, 99);
        for (int c = 2; c < 10; c++) {
            x.arrive(c, 40 + c);
        }
        spanIs(x, 1, 99, 10);
        x.arrive(10, 50);
        spanIs(x, 42, 99, 10);
        x.arrive(11, 30);
        spanIs(x, 30, 50, 10);
        x.back(11);
        spanIs(x, 42, 99, 10);
    }

    private static void spanIs(CardClub x, int least, int greatest, int many) {
        Due.is("least", least, x.span(0, 0, 0));
        Due.is("greatest", greatest, x.span(0, 0, 1));
        Due.is("of how many", many, x.span(0, 0, 2));
    }

    private static void arrive() {
        Due.sentence("An ARRIVAL: true; false, and nothing happens: no such CARD, CANCELLED, 600 tellings, or no such DAY.");
        CardClub x = Scenes.club(3);
        x.ask(0);
        x.ask(0);
        Due.no("card 2", x.arrive(2, 0));
        Due.no("card 3", x.arrive(3, 0));
        Due.no("card 299", x.arrive(299, 0));
        Due.no("card 300", x.arrive(300, 0));
        Due.no("card -1", x.arrive(-1, 0));
        Due.no("the greatest number", x.arrive(Integer.MAX_VALUE, 0));
        Due.no("day 1", x.arrive(0, 1));
        Due.no("day -1", x.arrive(0, -1));
        x.leave(2);
        Due.no("cancelled", x.arrive(1, 0));
        Due.is("nothing happens", 0, x.count(4));
        Due.is("nothing happens", NONE, x.card(1, 4));
        Due.yes("card 0", x.arrive(0, 0));
        Due.is("a telling", 1, x.count(4));
        x.leave(1);
        Due.yes("to one who left, but not cancelled", x.arrive(0, 0));
        x.clock(60);
        Due.yes("one that would be lost", x.arrive(0, 60));
    }

    private static void back() {
        Due.sentence("An ARRIVAL is TAKEN BACK: true; false, and nothing happens: none told (or TAKEN BACK since),"
                + " 600 tellings, CANCELLED.");
        CardClub x = Scenes.club(3);
        x.ask(0);
        x.ask(0);
        Due.no("none told", x.back(0));
        Due.no("card 2", x.back(2));
        Due.no("card 299", x.back(299));
        Due.no("card 300", x.back(300));
        Due.no("card -1", x.back(-1));
        x.arrive(0, 0);
        Due.no("none told of the other", x.back(1));
        Due.yes("told", x.back(0));
        Due.no("taken back since", x.back(0));
        Due.is("a telling and a taking back", 2, x.count(4));
        x.arrive(0, 0);
        x.arrive(0, 0);
        Due.yes("told twice", x.back(0));
        Due.no("once is enough", x.back(0));
        x.leave(1);
        Due.no("cancelled", x.back(0));
        Due.is("nothing happens", 5, x.count(4));
        x.arrive(1, 0);
        x.leave(2);
        Due.yes("to one who left, but not cancelled", x.back(1));
    }

    private static void card() {
        Due.sentence("Of a CARD what 0: from whom, 1: to whom, 2: the DAY of SENDING, 3: BOUND, 4: the DAY on which it ARRIVED"
                + " as KNOWN NOW (NONE), 5: the RING as CLOSED it is of (0, 1, ..; NONE), 6: the DAY on which it was CANCELLED"
                + " (NONE). NONE without it, or for another what.");
        CardClub x = sentOnDay100();
        int[] want = {0, 1, 100, 10, NONE, NONE, NONE};
        for (int what = 0; what < want.length; what++) {
            Due.is("what " + what, want[what], x.card(0, what));
            Due.is("card 1, what " + what, NONE, x.card(1, what));
            Due.is("card 2, what " + what, NONE, x.card(2, what));
            Due.is("card 299, what " + what, NONE, x.card(299, what));
            Due.is("card 300, what " + what, NONE, x.card(300, what));
            Due.is("card -1, what " + what, NONE, x.card(-1, what));
        }
        Due.is("what 7", NONE, x.card(0, 7));
        Due.is("what -1", NONE, x.card(0, -1));
        Due.is("what, the greatest number", NONE, x.card(0, Integer.MAX_VALUE));
        Due.is("what, the least number", NONE, x.card(0, Integer.MIN_VALUE));
        x.clock(101);
        x.arrive(0, 100);
        Due.is("arrived on", 100, x.card(0, 4));
        x.back(0);
        Due.is("taken back", NONE, x.card(0, 4));
        x.leave(1);
        Due.is("cancelled on", 101, x.card(0, 6));
        x = Scenes.club(2);
        Scenes.swap(x, 0, 1);
        Scenes.swap(x, 0, 1);
        Due.is("the ring", 0, x.card(1, 5));
        Due.is("the next ring", 1, x.card(2, 5));
        x.leave(0);
        Due.is("cancelled on day 0", 0, x.card(0, 6));
    }

    private static void state() {
        Due.sentence("A CARD on a DAY as KNOWN on a DAY: 0 UNDER WAY, 1 ARRIVED (not LATE), 2 LOST, 3 LATE, 4 CANCELLED;"
                + " NONE ahead of its SENDING, or without these.");
        CardClub x = sentOnDay100();
        Due.is("ahead", NONE, x.state(0, 99, 100));
        Due.is("card 1", NONE, x.state(1, 100, 100));
        Due.is("card 2", NONE, x.state(2, 100, 100));
        Due.is("card 299", NONE, x.state(299, 100, 100));
        Due.is("card 300", NONE, x.state(300, 100, 100));
        Due.is("card -1", NONE, x.state(-1, 100, 100));
        Due.is("day -1", NONE, x.state(0, -1, 100));
        Due.is("day 2000", NONE, x.state(0, 2000, 100));
        Due.is("known -1", NONE, x.state(0, 100, -1));
        Due.is("known 2000", NONE, x.state(0, 100, 2000));
        Due.is("extremes", NONE, x.state(0, Integer.MAX_VALUE, Integer.MIN_VALUE));
        Due.is("day 1999, known 1999", LOST, x.state(0, 1999, 1999));
        Due.is("known 0", LOST, x.state(0, 1999, 0));
    }

    private static void about() {
        Due.sentence("Counts of a MEMBER what 0: GIVEN, 1: GOT, 2: COMING, 3: OUT, 4: CREDIT, 5: OWED (-1000 without him),"
                + " 6: 1 if he MAY ASK, else 0, 7: LAND, 8: 1 if there, else 0, 9: the DAY on which he came, 10: LOST ones"
                + " of his. NONE without him, or for another what.");
        CardClub x = sentOnDay100();
        int[] want = {0, 0, 0, 1, 0, 0, 1, 0, 1, 0, 0};
        for (int what = 0; what < want.length; what++) {
            aboutIs(x, 0, what, want[what]);
            aboutIs(x, 2, what, what == 5 ? -1000 : NONE);
            aboutIs(x, 3, what, what == 5 ? -1000 : NONE);
            aboutIs(x, 39, what, what == 5 ? -1000 : NONE);
            aboutIs(x, -1, what, what == 5 ? -1000 : NONE);
            aboutIs(x, 40, what, what == 5 ? -1000 : NONE);
        }
        aboutIs(x, 0, 11, NONE);
        aboutIs(x, 0, -1, NONE);
        aboutIs(x, 0, Integer.MAX_VALUE, NONE);
        aboutIs(x, 2, 11, NONE);
        x.clock(110);
        aboutIs(x, 0, 10, 1);
        aboutIs(x, 1, 10, 0);
        x.arrive(0, 110);
        aboutIs(x, 0, 10, 0);
        x.leave(0);
        aboutIs(x, 0, 0, 1);
        aboutIs(x, 0, 5, 1);
        aboutIs(x, 0, 8, 0);
        x = sentOnDay100();
        x.leave(1);
        x.clock(110);
        aboutIs(x, 0, 10, 0);
        aboutIs(x, 0, 4, 1);
        aboutIs(x, 0, 3, 0);
    }

    private static void album() {
        Due.sentence("LANDS of which a MEMBER GOT CARDS (LAND l is bit l; by the SENDERS' LANDS); NONE without him.");
        CardClub x = new CardClub();
        x.member(7, 0, NONE);
        x.member(0, 0, NONE);
        x.member(15, 0, NONE);
        Due.rules(x, "lost 10");
        int ofLand0 = Scenes.swap(x, 1, 0);
        int ofLand15 = Scenes.swap(x, 2, 0);
        Due.is("none arrived", 0, x.album(0));
        x.arrive(ofLand15, 0);
        Due.is("land 15", 1 << 15, x.album(0));
        x.clock(10);
        x.arrive(ofLand0, 10);
        Due.is("land 0, late", 1 << 15 | 1, x.album(0));
        x.arrive(ofLand0 + 1, 10);
        Due.is("of the other, land 7", 1 << 7, x.album(1));
        x.leave(0);
        Due.is("who left has it still", 1 << 15 | 1, x.album(0));
        Due.is("no member 3", NONE, x.album(3));
        Due.is("no member 39", NONE, x.album(39));
        Due.is("no member 40", NONE, x.album(40));
        Due.is("no member -1", NONE, x.album(-1));
    }

    private static void spanAnswers() {
        Due.sentence("SPAN between two LANDS (from the first to the second) what 0: least, 1: greatest, 2: of how many"
                + " ARRIVALS. NONE without these, or (0, 1) without any.");
        CardClub x = sentOnDay100();
        spanIs(x, NONE, NONE, 0);
        x.arrive(0, 100);
        spanIs(x, 0, 0, 1);
        x.back(0);
        spanIs(x, NONE, NONE, 0);
        for (int what = 0; what < 3; what++) {
            Due.is("land 16", NONE, x.span(16, 0, what));
            Due.is("to land 16", NONE, x.span(0, 16, what));
            Due.is("land -1", NONE, x.span(-1, 0, what));
            Due.is("to land -1", NONE, x.span(0, -1, what));
        }
        Due.is("what 3", NONE, x.span(0, 0, 3));
        Due.is("what -1", NONE, x.span(0, 0, -1));
        x.arrive(0, 100);
        Due.is("what 3, with one", NONE, x.span(0, 0, 3));
        Due.is("what -1, with one", NONE, x.span(0, 0, -1));
    }
}
