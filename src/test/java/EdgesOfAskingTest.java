/** A test for each sentence about who asks and who gets that names an edge (term II, promises 11 to 14). */
public final class EdgesOfAskingTest {
    private static final int NONE = CardClub.NONE;

    public static void main(String[] args) {
        cardNumbers();
        outBelowUnder();
        moreThatHeHasGiven();
        moreNone();
        mayGetWho();
        mayGetOnce();
        familyAsNow();
        owedAndSlack();
        unhappyAtMostStrict();
        greatestOwed();
        leastUnhappy();
        sentLongestAgo();
        thenTheLeast();
        listOfEight();
        othersLeftOut();
        atMostOne();
        mostOfThem();
        leastSumOfUnhappy();
        greatestSumOfOwed();
        thenTheFirst();
        orderOfSending();
        ask();
        may();
        list();
        give();
        Due.endOfTest();
    }

    private static void sentTo(CardClub x, String why, int from, int want) {
        int card = x.ask(from);
        Due.is(why + ", from", from, x.card(card, 0));
        Due.is(why + ", to", want, x.card(card, 1));
    }

    private static void cardNumbers() {
        Due.sentence("CARDS 0 to 299, of a MEMBER to another one");
        CardClub x = Scenes.posted(299);
        Due.is("299 cards", 299, x.count(3));
        Due.is("no card 299 yet", NONE, x.card(299, 0));
        Due.is("the last", 299, x.ask(39));
        Due.is("is there", 39, x.card(299, 0));
        Due.is("the 301st", NONE, x.ask(38));
        Due.is("no card 300", NONE, x.card(300, 0));
        Due.is("no card -1", NONE, x.card(-1, 0));
        Due.is("300 cards", 300, x.count(3));
        for (int c = 0; c < 300; c++) {
            if (x.card(c, 0) == x.card(c, 1)) {
                Due.wrong("card " + c + " goes to its sender");
            }
        }
    }

    private static void outBelowUnder() {
        Due.sentence("MAY ASK: who is there and whose OUT is below under");
        CardClub x = Scenes.club(6);
        Due.rules(x, "under 2; lost 10");
        Due.is("OUT 0", 0, x.ask(0));
        Due.is("OUT 1", 1, x.ask(0));
        Due.is("OUT 2", -2, x.ask(0));
        Due.is("he may not", 0, x.about(0, 6));
        x.clock(9);
        Due.is("OUT 2 still", -2, x.ask(0));
        x.clock(10);
        Due.is("both are lost", 2, x.ask(0));
        x.arrive(0, 10);
        Due.is("OUT 1", 3, x.ask(0));
        Due.is("OUT 2", -2, x.ask(0));
        x.leave(x.card(3, 1));
        Due.is("a cancelled one is not OUT", 1, x.about(0, 6));
        x.leave(0);
        Due.is("who left may not", 0, x.about(0, 6));
        Due.is("who left", -2, x.ask(0));
    }

    private static void moreThatHeHasGiven() {
        Due.sentence("and one more for each more that he has GIVEN");
        CardClub x = Scenes.club(12);
        Due.rules(x, "under 1; more 3; slack 20");
        for (int given = 0; given < 3; given++) {
            Due.is("GIVEN " + given + ", OUT 0", given, x.ask(0));
            Due.is("GIVEN " + given + ", OUT 1", -2, x.ask(0));
            x.arrive(given, 0);
        }
        Due.is("GIVEN 3, OUT 0", 3, x.ask(0));
        Due.is("GIVEN 3, OUT 1", 4, x.ask(0));
        Due.is("GIVEN 3, OUT 2", -2, x.ask(0));
        x.arrive(3, 0);
        x.arrive(4, 0);
        Due.is("GIVEN 5, OUT 0", 5, x.ask(0));
        Due.is("GIVEN 5, OUT 1", 6, x.ask(0));
        Due.is("GIVEN 5, OUT 2", -2, x.ask(0));
        x.arrive(5, 0);
        Due.is("GIVEN 6, OUT 1", 7, x.ask(0));
        Due.is("GIVEN 6, OUT 2", 8, x.ask(0));
        Due.is("GIVEN 6, OUT 3", -2, x.ask(0));
        x.back(5);
        Due.is("GIVEN 5, OUT 4", -2, x.ask(0));
        Due.rules(x, "under 1; more 1; slack 20");
        Due.is("GIVEN 5, OUT 4, more 1", 9, x.ask(0));
        Due.is("GIVEN 5, OUT 5, more 1", 10, x.ask(0));
        Due.is("GIVEN 5, OUT 6, more 1", -2, x.ask(0));
    }

    private static void moreNone() {
        Due.sentence("(more 0: none)");
        CardClub x = Scenes.club(6);
        Due.rules(x, "under 1; more 0; slack 20");
        x.ask(0);
        Due.is("OUT 1", -2, x.ask(0));
        x.arrive(0, 0);
        x.ask(0);
        Due.is("GIVEN 1, OUT 1", -2, x.ask(0));
        Due.rules(x, "under 1; more 1; slack 20");
        Due.is("more 1", 2, x.ask(0));
    }

    private static void mayGetWho() {
        Due.sentence("MAY GET from a: b is there, is not a nor of his FAMILY");
        CardClub x = Scenes.family(2, 0);
        x.member(0, 0, 1);
        x.member(0, 0, NONE);
        x.member(0, 0, NONE);
        Due.is("himself", 0, x.may(0, 0));
        Due.is("himself, alone", 0, x.may(3, 3));
        Due.is("one of his family", 0, x.may(0, 1));
        Due.is("one of another family", 1, x.may(0, 2));
        Due.is("one alone", 1, x.may(0, 3));
        Due.is("both alone", 1, x.may(3, 4));
        x.leave(2);
        Due.is("one who left", 0, x.may(0, 2));
        Due.is("from one who left", 1, x.may(2, 0));
    }

    private static void mayGetOnce() {
        Due.sentence("no CARD (of any kind, at any time, CANCELLED or not) went from a");
        CardClub x = Scenes.club(5);
        Due.rules(x, "lost 10");
        Due.is("to 1", 1, x.card(x.ask(0), 1));
        Due.is("under way", 0, x.may(0, 1));
        Due.is("the other way", 1, x.may(1, 0));
        Due.is("to another", 1, x.may(0, 2));
        x.clock(1000);
        Due.is("lost since long", 0, x.may(0, 1));
        x.arrive(0, 1000);
        Due.is("arrived late", 0, x.may(0, 1));
        Scenes.swap(x, 2, 3);
        Due.is("of a ring", 0, x.may(2, 3));
        Due.is("of a ring, the other way", 0, x.may(3, 2));
        x.drop(0, 2);
        Due.is("cancelled", 4, x.state(1, 1000, 1000));
        Due.is("a cancelled one", 0, x.may(2, 3));
        Due.is("from others", 1, x.may(4, 3));
    }

    private static void familyAsNow() {
        Due.sentence("or from one of his FAMILY (as they are now, also who left), to b");
        CardClub x = Scenes.family(2, 3);
        x.member(0, 0, 5);
        x.member(0, 0, 5);
        x.member(0, 0, NONE);
        x.member(0, 0, NONE);
        Due.is("from 0 to 2", 2, x.card(x.ask(0), 1));
        Due.is("one of his family", 0, x.may(1, 2));
        Due.is("to another of that family", 1, x.may(1, 3));
        x.leave(0);
        Due.is("of one who left", 0, x.may(1, 2));
        Due.is("who comes later", 6, x.member(0, 0, 3));
        Due.is("is of that family now", 0, x.may(6, 2));
        Due.is("to another of that family", 1, x.may(6, 3));
        x.ask(4);
        Due.is("both alone are no family", 1, x.may(5, x.card(1, 1)));
    }

    private static void owedAndSlack() {
        Due.sentence("OWED of b and slack is above 0");
        CardClub x = Scenes.club(5);
        Due.rules(x, "slack 0");
        Due.is("OWED 0, slack 0", 0, x.may(0, 1));
        Due.rules(x, "slack 1");
        Due.is("OWED 0, slack 1", 1, x.may(0, 1));
        Due.is("to 1", 1, x.card(x.ask(0), 1));
        Due.is("OWED -1, slack 1", 0, x.may(2, 1));
        Due.rules(x, "slack 0");
        Due.is("OWED -1, slack 0", 0, x.may(2, 1));
        Due.rules(x, "slack 2");
        Due.is("OWED -1, slack 2", 1, x.may(2, 1));
        x.arrive(0, 0);
        Due.rules(x, "slack 0");
        Due.is("OWED 1, slack 0", 1, x.may(2, 0));
        Due.is("OWED 0, slack 0", 0, x.may(2, 3));
        x.leave(1);
        Due.rules(x, "slack 20");
        Due.is("gone", 0, x.may(2, 1));
    }

    private static void unhappyAtMostStrict() {
        Due.sentence("UNHAPPY for both is at most strict");
        CardClub x = Scenes.club(4);
        Due.wish(x, 0, "not any");
        Due.wish(x, 1, "not any");
        int[][] most = {{0, 0, 1}, {0, 1, 1}, {1, 1, 1}};
        for (int strict = 0; strict <= 2; strict++) {
            Due.rules(x, "strict " + strict);
            Due.is("both, strict " + strict, most[strict][0], x.may(0, 1));
            Due.is("he, strict " + strict, most[strict][1], x.may(0, 2));
            Due.is("the other, strict " + strict, most[strict][1], x.may(2, 1));
            Due.is("nobody, strict " + strict, most[strict][2], x.may(2, 3));
        }
    }

    private static void greatestOwed() {
        Due.sentence("of those who MAY GET from him the one with the greatest OWED");
        CardClub x = Scenes.club(4);
        sentTo(x, "all OWED 0", 3, 0);
        x.arrive(0, 0);
        // OWED: 0: -1, 1: 0, 2: 0, 3: 1. The greatest goes ahead of the least UNHAPPY and of all else.
        Due.wish(x, 3, "not any");
        sentTo(x, "OWED 1, though unhappy", 1, 3);
        // OWED: 0: -1, 1: 0, 2: 0, 3: 0.
        sentTo(x, "OWED 0, though unhappy, and not -1", 0, 1);
        sentTo(x, "OWED 0", 1, 2);
        // OWED: 0: -1, 1: -1, 2: -1, 3: 0.
        sentTo(x, "OWED 0", 2, 3);
        sentTo(x, "all OWED -1", 2, 0);
    }

    private static void leastUnhappy() {
        Due.sentence("of several the least UNHAPPY");
        CardClub x = Scenes.club(4);
        Due.wish(x, 0, "land 5");
        x.member(5, 0, NONE);
        Due.wish(x, 1, "not any");
        Due.wish(x, 4, "any");
        sentTo(x, "nobody unhappy", 0, 4);
        x.arrive(0, 0);
        sentTo(x, "one is owed", 2, 0);
        sentTo(x, "0 of 3, 1 of 1", 2, 3);
        sentTo(x, "1 of 1", 2, 1);
        sentTo(x, "4, OWED -1", 2, 4);
        x = Scenes.club(3);
        Due.wish(x, 0, "not any");
        Due.wish(x, 1, "not any");
        sentTo(x, "one unhappy ahead of two", 0, 2);
        sentTo(x, "two", 0, 1);
    }

    private static void sentLongestAgo() {
        Due.sentence("then the one to whom a CARD was SENT longest ago (never: ahead of all)");
        CardClub x = Scenes.club(4);
        Due.rules(x, "slack 20; strict 2");
        x.clock(3);
        Scenes.swap(x, 2, 3);
        x.clock(4);
        Scenes.swap(x, 1, 2);
        for (int c = 0; c < 4; c++) {
            x.arrive(c, x.card(c, 2));
        }
        // All are OWED 0. To 3 on day 3, to 1 on day 4, to 2 on day 3 and day 4, to 0 never.
        x.member(0, 0, NONE);
        x.member(0, 0, NONE);
        x.leave(4);
        sentTo(x, "never", 5, 0);
        sentTo(x, "day 3", 5, 3);
        sentTo(x, "day 4, the least", 5, 1);
        sentTo(x, "day 4", 5, 2);
        x = Scenes.club(4);
        Scenes.swap(x, 0, 1);
        x.arrive(0, 0);
        x.arrive(1, 0);
        // 0 to 1 and 1 to 0: all are OWED 0, and day 0 is behind never.
        sentTo(x, "never is ahead of day 0", 3, 2);
        sentTo(x, "both on day 0, the least", 3, 0);
        sentTo(x, "day 0", 3, 1);
    }

    private static void thenTheLeast() {
        Due.sentence("then the least: a CARD, SENT NOW.");
        CardClub x = Scenes.club(40);
        x.clock(77);
        Due.rules(x, "under 20");
        sentTo(x, "the least", 39, 0);
        sentTo(x, "the next", 39, 1);
        sentTo(x, "not himself", 1, 2);
        sentTo(x, "the next", 0, 3);
        Due.is("sent now", 77, x.card(0, 2));
        Due.is("of no ring", NONE, x.card(0, 5));
        for (int m = 0; m < 39; m++) {
            x.leave(m);
        }
        Due.is("nobody else is there", -3, x.ask(39));
    }

    private static void listOfEight() {
        Due.sentence("ALL ASK: of a list of at most 8 unlike MEMBERS");
        CardClub x = Scenes.club(20);
        for (int m = 0; m < 8; m++) {
            Due.is("the next", m + 1, x.list(19 - m));
        }
        Due.is("the ninth", NONE, x.list(0));
        Due.is("one of it", NONE, x.list(12));
        Due.is("eight", 8, x.count(9));
        Due.is("all eight", 8, x.give());
        for (int c = 0; c < 8; c++) {
            Due.is("from", 19 - c, x.card(c, 0));
            Due.is("to", c, x.card(c, 1));
        }
    }

    private static void othersLeftOut() {
        Due.sentence("that MAY ASK (others of it are left out)");
        CardClub x = Scenes.club(6);
        Due.rules(x, "under 1");
        x.ask(0);
        x.list(0);
        x.list(1);
        x.list(2);
        x.leave(2);
        Due.is("1 alone", 1, x.give());
        Due.is("from 1", 1, x.card(1, 0));
        Due.is("the list is empty then", 0, x.count(9));
        x.list(0);
        Due.is("none of it", 0, x.give());
        Due.is("the list is empty then", 0, x.count(9));
    }

    private static void atMostOne() {
        Due.sentence("each gets at most one, to each one goes at most one");
        CardClub x = Scenes.club(3);
        x.leave(2);
        x.list(0);
        x.list(1);
        Due.is("to one another", 2, x.give());
        x = Scenes.family(2, 4);
        x.member(0, 0, 4);
        x.member(0, 0, NONE);
        x.list(0);
        x.list(1);
        x.list(2);
        Due.is("to one there is one only", 1, x.give());
        Due.is("the first of the list", 0, x.card(0, 0));
        x = Scenes.club(5);
        x.list(0);
        Due.is("one has one, though four may get", 1, x.give());
    }

    private static void mostOfThem() {
        Due.sentence("the most of them; then the least sum of UNHAPPY");
        CardClub x = Scenes.club(4);
        Due.rules(x, "slack 1");
        x.ask(0);
        x.ask(0);
        x.leave(3);
        // 1 and 2 are OWED -1: only 0 may get. With both on the list one alone is served.
        x.list(2);
        x.list(1);
        Due.is("one", 1, x.give());
        Due.is("the first of the list", 2, x.card(2, 0));
        x = Scenes.club(3);
        x.member(0, 0, NONE);
        Due.wish(x, 0, "not land 0");
        Due.wish(x, 1, "land 0");
        Due.wish(x, 3, "not any");
        Due.rules(x, "strict 1");
        // 0 may send to 1 and 2 (one unhappy), 1 to 2 (nobody), 0 and 3 (one). Two cards have one unhappy at least.
        x.list(0);
        x.list(1);
        Due.is("both, though one is unhappy", 2, x.give());
        Due.is("0 to 1", 1, x.card(0, 1));
        Due.is("1 to 2", 2, x.card(1, 1));
    }

    private static void leastSumOfUnhappy() {
        Due.sentence("then the least sum of UNHAPPY; then the greatest sum of OWED");
        CardClub x = Scenes.club(4);
        x.ask(3);
        x.arrive(0, 0);
        // OWED: 0: -1, 1: 0, 2: 0, 3: 1. He wishes for land 5, of which 4 is, OWED 0.
        x.member(5, 0, NONE);
        Due.wish(x, 0, "land 5");
        x.list(0);
        Due.is("one", 1, x.give());
        Due.is("less unhappy goes ahead of more OWED", 4, x.card(1, 1));
        x.list(0);
        Due.is("one", 1, x.give());
        Due.is("all unhappy: the greatest OWED", 3, x.card(2, 1));
    }

    private static void greatestSumOfOwed() {
        Due.sentence("then the greatest sum of OWED; then the first");
        CardClub x = Scenes.club(5);
        x.ask(4);
        x.ask(4);
        x.arrive(0, 0);
        x.arrive(1, 0);
        // OWED: 0: -1, 1: -1, 2: 0, 3: 0, 4: 2.
        x.list(0);
        x.list(2);
        Due.is("two", 2, x.give());
        // To 4 and one of OWED 0: 0 to 2 and 2 to 4, or 0 to 3, or 0 to 4 and 2 to 3. The first: 0 the least.
        Due.is("0 to 2", 2, x.card(2, 1));
        Due.is("2 to 4", 4, x.card(3, 1));
    }

    private static void thenTheFirst() {
        Due.sentence("the first of the list the least one (nobody behind all), and so on");
        CardClub x = Scenes.club(4);
        x.list(3);
        x.list(1);
        x.list(0);
        Due.is("three", 3, x.give());
        Due.is("3 to 0", 0, x.card(0, 1));
        Due.is("1 to 2, for 0 is taken", 2, x.card(1, 1));
        Due.is("0 to 1", 1, x.card(2, 1));
        x = Scenes.family(3, 4);
        x.member(0, 0, NONE);
        x.list(2);
        x.list(0);
        x.list(1);
        Due.is("one", 1, x.give());
        Due.is("the first of the list has it, nobody is behind all", 2, x.card(0, 0));
    }

    private static void orderOfSending() {
        Due.sentence("CARDS are SENT in the order of the list.");
        CardClub x = Scenes.club(4);
        x.clock(6);
        x.list(2);
        x.list(0);
        x.list(3);
        Due.is("three", 3, x.give());
        int[] from = {2, 0, 3};
        for (int c = 0; c < 3; c++) {
            Due.is("from", from[c], x.card(c, 0));
            Due.is("on", 6, x.card(c, 2));
        }
    }

    private static void ask() {
        Due.sentence("ONE ASKS: the CARD; -2: he may not ask; -3: nobody MAY GET; NONE, and nothing happens: no such MEMBER,"
                + " or 300 CARDS.");
        CardClub x = Scenes.club(1);
        Due.is("nobody else", -3, x.ask(0));
        Due.is("no member 1", NONE, x.ask(1));
        Due.is("no member 2", NONE, x.ask(2));
        Due.is("no member 39", NONE, x.ask(39));
        Due.is("no member 40", NONE, x.ask(40));
        Due.is("no member -1", NONE, x.ask(-1));
        x.member(0, 0, NONE);
        Due.rules(x, "under 1");
        Due.is("the card", 0, x.ask(0));
        Due.is("he may not, and nobody may get", -2, x.ask(0));
        x.arrive(0, 0);
        Due.is("nobody may get", -3, x.ask(0));
        Due.is("one card", 1, x.count(3));
        x = Scenes.posted(300);
        Due.is("300", NONE, x.ask(0));
        x.leave(0);
        Due.is("300, of one who may not", NONE, x.ask(0));
        Due.is("300 cards", 300, x.count(3));
    }

    private static void may() {
        Due.sentence("1 if b MAY GET from a (whether a MAY ASK or not), 0 if not; NONE without these.");
        CardClub x = Scenes.club(3);
        Due.rules(x, "under 1");
        Due.is("he may ask", 1, x.may(0, 2));
        x.ask(0);
        Due.is("he may not", 1, x.may(0, 2));
        Due.is("he may not, and 1 had one", 0, x.may(0, 1));
        Due.is("no b", NONE, x.may(0, 3));
        Due.is("b 39", NONE, x.may(0, 39));
        Due.is("a 39", NONE, x.may(39, 0));
        Due.is("b 40", NONE, x.may(0, 40));
        Due.is("no a", NONE, x.may(3, 0));
        Due.is("b -1", NONE, x.may(0, -1));
        Due.is("a -1", NONE, x.may(-1, 0));
        Due.is("both none", NONE, x.may(3, 3));
        x.leave(0);
        Due.is("a left", 1, x.may(0, 2));
        Due.is("b left", 0, x.may(1, 0));
    }

    private static void list() {
        Due.sentence("A MEMBER comes on the list of ALL ASK: how many it has; NONE: no such MEMBER, on it already, or 8.");
        CardClub x = Scenes.club(9);
        Due.is("no member 9", NONE, x.list(9));
        Due.is("no member 10", NONE, x.list(10));
        Due.is("no member 39", NONE, x.list(39));
        Due.is("no member -1", NONE, x.list(-1));
        Due.is("none on it", 0, x.count(9));
        for (int m = 0; m < 8; m++) {
            Due.is("the next", m + 1, x.list(m));
            Due.is("on it already", NONE, x.list(m));
            Due.is("the first, already", NONE, x.list(0));
        }
        Due.is("8", NONE, x.list(8));
        Due.is("8 on it", 8, x.count(9));
        x.leave(0);
        Due.is("who left stays on it", 8, x.count(9));
        x.give();
        Due.is("who left", 1, x.list(0));
        Due.is("and another", 2, x.list(8));
    }

    private static void give() {
        Due.sentence("ALL ASK, and the list is empty then: how many CARDS are SENT; NONE, and nothing happens,"
                + " if there would not be room for as many CARDS as the list has.");
        CardClub x = Scenes.club(3);
        x.list(0);
        x.list(1);
        Due.is("two", 2, x.give());
        x.leave(2);
        x.list(1);
        x.list(0);
        Due.is("nobody may get from them any more", 0, x.give());
        Due.is("no more cards", 2, x.count(3));
        Due.is("the list is empty then", 0, x.count(9));
        x = Scenes.posted(298);
        Due.is("an empty list", 0, x.give());
        x.list(38);
        x.list(39);
        Due.is("as many as there is room for", 2, x.give());
        Due.is("the list is empty then", 0, x.count(9));
        Due.is("300 cards, an empty list", 0, x.give());
        x.list(5);
        Due.is("300 cards, one on the list", NONE, x.give());
        Due.is("nothing happens", 1, x.count(9));
        x = Scenes.posted(299);
        x.list(38);
        x.list(39);
        x.leave(38);
        Due.is("one too many, though one of them may not ask", NONE, x.give());
        Due.is("nothing happens", 2, x.count(9));
        Due.is("nothing happens", 299, x.count(3));
        x = Scenes.posted(293);
        for (int m = 0; m < 8; m++) {
            x.list(39 - m);
        }
        Due.is("eight, and room for seven", NONE, x.give());
        x = Scenes.posted(292);
        for (int m = 0; m < 8; m++) {
            x.list(39 - m);
        }
        Due.is("eight, and room for eight", 8, x.give());
    }
}
