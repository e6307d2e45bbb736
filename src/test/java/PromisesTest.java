/** Each promise by hand-worked answers: ordinary inputs, the edges that the document names, wrong inputs. */
public final class PromisesTest {
    private static final int NONE = CardClub.NONE;
    private static final int BIG = Integer.MAX_VALUE;
    private static final int SMALL = Integer.MIN_VALUE;

    public static void main(String[] args) {
        newObject();
        clock();
        far();
        member();
        leave();
        leaveWithRing();
        feedAndEnd();
        wishFaults();
        meets();
        unhappyCounts();
        rules();
        ask();
        askOrder();
        may();
        list();
        give();
        giveOrder();
        arriveAndBack();
        tellingsFull();
        card();
        state();
        bound();
        about();
        album();
        span();
        offer();
        rings();
        ringsOrder();
        close();
        drop();
        rates();
        price();
        pay();
        payOrder();
        count();
        cardsFull();
        Due.endOfTest();
    }

    private static void newObject() {
        Due.part("1 new object");
        CardClub x = new CardClub();
        Due.is("NONE", -1, CardClub.NONE);
        int[] want = {0, 0, 0, 0, 0, 0, 0, 0, 0, 0, 5, 10, 3, 60, 2};
        for (int w = 0; w < want.length; w++) {
            Due.is("count " + w, want[w], x.count(w));
        }
        for (int k = 0; k < 8; k++) {
            Due.is("stamps " + k, 0, x.count(20 + k));
            Due.is("value " + k, NONE, x.count(30 + k));
            Due.is("paid " + k, NONE, x.paid(k));
        }
        Due.is("rings", 0, x.rings());
        Due.is("ring", NONE, x.ring(0, 0));
        Due.is("give", 0, x.give());
        Due.is("span", 0, x.span(0, 0, 2));
    }

    private static void clock() {
        Due.part("2 clock");
        CardClub x = new CardClub();
        Due.yes("0", x.clock(0));
        Due.yes("5", x.clock(5));
        Due.yes("its own", x.clock(5));
        Due.no("behind", x.clock(4));
        Due.no("-1", x.clock(-1));
        Due.no("2000", x.clock(2000));
        Due.no("big", x.clock(BIG));
        Due.is("now", 5, x.count(0));
        Due.yes("1999", x.clock(1999));
        Due.is("now", 1999, x.count(0));
    }

    private static void far() {
        Due.part("3 far");
        CardClub x = new CardClub();
        Due.is("untold", 10, x.far(0, 15, 99));
        Due.is("other way", 99, x.far(15, 0, 0));
        Due.is("again", 0, x.far(0, 15, 7));
        Due.is("both one", NONE, x.far(3, 3, 5));
        Due.is("100", NONE, x.far(0, 15, 100));
        Due.is("-1", NONE, x.far(0, 15, -1));
        Due.is("land 16", NONE, x.far(0, 16, 1));
        Due.is("land -1", NONE, x.far(-1, 0, 1));
        Due.is("extremes", NONE, x.far(BIG, SMALL, 1));
        Due.is("nothing happened", 7, x.far(15, 0, 7));
        Due.is("another pair", 10, x.far(1, 2, 3));
    }

    private static void member() {
        Due.part("4 member");
        CardClub x = new CardClub();
        Due.is("0", 0, x.member(15, 65535, 19));
        Due.is("1", 1, x.member(0, 0, NONE));
        Due.is("land 16", NONE, x.member(16, 0, NONE));
        Due.is("land -1", NONE, x.member(-1, 0, NONE));
        Due.is("tongues", NONE, x.member(0, 65536, NONE));
        Due.is("tongues -1", NONE, x.member(0, -1, NONE));
        Due.is("family 20", NONE, x.member(0, 0, 20));
        Due.is("family -2", NONE, x.member(0, 0, -2));
        x.clock(9);
        Due.is("2", 2, x.member(7, 1, 0));
        Due.is("land", 7, x.about(2, 7));
        Due.is("came", 9, x.about(2, 9));
        Due.is("came first", 0, x.about(0, 9));
        x.leave(1);
        for (int m = 3; m < 40; m++) {
            Due.is("next", m, x.member(0, 0, NONE));
        }
        Due.is("41st", NONE, x.member(0, 0, NONE));
        Due.is("members", 40, x.count(1));
        Due.is("there", 39, x.count(2));
    }

    private static void leave() {
        Due.part("5 leave");
        CardClub x = Scenes.club(4);
        Due.is("no member", NONE, x.leave(4));
        Due.is("-1", NONE, x.leave(-1));
        int a = x.ask(0);
        Due.is("to 1", 1, x.card(a, 1));
        Due.yes("arrived", x.arrive(a, 0));
        Due.rules(x, "slack 20");
        int b = x.ask(2);
        Due.is("from 2 to 0", 0, x.card(b, 1));
        int c = x.ask(3);
        Due.is("from 3 to 0", 2, x.card(c, 1));
        Due.is("3 leaves", 0, x.leave(3));
        Due.is("3 again", NONE, x.leave(3));
        x.clock(4);
        Due.is("2 leaves", 1, x.leave(2));
        Due.is("cancelled", 4, x.card(c, 6));
        Due.is("credit of one who left", 1, x.about(3, 4));
        Due.is("not to him", NONE, x.card(b, 6));
        Due.is("no credit", 0, x.about(2, 4));
        Due.is("0 leaves", 1, x.leave(0));
        Due.is("credit of 2", 1, x.about(2, 4));
        Due.is("1 leaves with what arrived", 0, x.leave(1));
        Due.is("there", 0, x.count(2));
        Due.is("arrived stays", 1, x.state(a, 4, 4));
        x = Scenes.club(2);
        x.ask(0);
        x.clock(60);
        Due.is("a lost one is not cancelled", 0, x.leave(1));
        Due.is("lost", 2, x.state(0, 60, 60));
    }

    private static void leaveWithRing() {
        Due.part("5 leave, of a ring");
        CardClub x = Scenes.club(3);
        x.offer(0, 0, 2);
        x.offer(1, 1, 4);
        x.offer(2, 2, 1);
        x.offer(0, 5, 0);
        // 0 gives kind 0, which 2 wants; 2 gives kind 2, which 1 wants; 1 gives kind 1, which 0 wants.
        Due.is("rings", 1, x.rings());
        Due.is("closed", 0, x.close(0));
        Due.is("card from 0", 2, x.card(0, 1));
        Due.is("card from 2", 1, x.card(1, 1));
        Due.is("card from 1", 0, x.card(2, 1));
        Due.is("both his cards", 2, x.leave(0));
        Due.is("to him", 0, x.card(2, 6));
        Due.is("from him", 0, x.card(0, 6));
        Due.is("others stay", NONE, x.card(1, 6));
        Due.is("credit of the sender", 1, x.about(1, 4));
        Due.is("credit of who was to get", 1, x.about(2, 4));
        Due.is("his offer", 2, x.offers(0, 3));
        Due.is("his open offer", 2, x.offers(3, 3));
        Due.is("other's offer", 1, x.offers(1, 3));
        Due.is("not of it any more", NONE, x.drop(0, 0));
        Due.is("1 drops out: not under way", 0, x.drop(0, 1));
    }

    private static void feedAndEnd() {
        Due.part("6 feed, 7 end");
        CardClub x = Scenes.club(1);
        Due.is("end of nothing", 0, x.end(0));
        Due.is("end 1 of nothing", NONE, x.end(1));
        for (int i = 1; i <= 10; i++) {
            Due.is("feed", 20 * i, x.feed(0x616e7920, 0x20202020, 0x20202020, 0x20202020, 0x20202020));
        }
        Due.is("201st byte", NONE, x.feed(0, 0, 0, 0, 0));
        Due.is("bytes", 200, x.count(8));
        Due.is("end 201", NONE, x.end(201));
        Due.is("end -1", NONE, x.end(-1));
        Due.is("end 181", 181, x.end(181));
        Due.is("181 and 20", NONE, x.feed(0, 0, 0, 0, 0));
        Due.is("end 180", 180, x.end(180));
        Due.is("180 and 20", 200, x.feed(0, 0, 0, 0, 0));
        Due.is("end 4", 4, x.end(4));
        Due.is("any", 1, x.wish(0));
        x.feed(0x6c616e64, 0x20372061, 0x6e642061, 0x6e790000, 0);
        Due.is("end 14", 14, x.end(14));
        Due.is("highest byte first", 2, x.wish(0));
        x.feed(-1, 0, 0, 0, 0);
        Due.is("byte 255", Due.fault(0, 0), x.wish(0));
    }

    private static void wishIs(CardClub x, String text, int want) {
        Due.is("'" + text + "'", want, Due.wish(x, 0, text));
    }

    private static String many(String text, int times) {
        return text.repeat(times);
    }

    private static void wishFaults() {
        Due.part("8 wish");
        CardClub x = Scenes.club(2);
        wishIs(x, "land 3", 1);
        wishIs(x, "  land   015  ", 1);
        wishIs(x, "land 0 and tongue 15 or shared and far 0 or near 99 and old 999 or any", 7);
        wishIs(x, "not(any)and(any or(any))", 3);
        wishIs(x, "land3and land4", 2);
        wishIs(x, "", 0);
        wishIs(x, "   ", 0);
        wishIs(x, "lands 3", Due.fault(0, 0));
        wishIs(x, " land", Due.fault(5, 0));
        wishIs(x, "land  ", Due.fault(6, 0));
        wishIs(x, "land x", Due.fault(5, 0));
        wishIs(x, "land -1", Due.fault(5, 0));
        wishIs(x, "land 16", Due.fault(5, 1));
        wishIs(x, "land  0003", Due.fault(6, 1));
        wishIs(x, "land 16 #", Due.fault(5, 1));
        wishIs(x, "land 3 4", Due.fault(7, 0));
        wishIs(x, "any and", Due.fault(7, 0));
        wishIs(x, "any and or any", Due.fault(8, 0));
        wishIs(x, "any any", Due.fault(4, 0));
        wishIs(x, "any xor any", Due.fault(4, 0));
        wishIs(x, "and any", Due.fault(0, 0));
        wishIs(x, "Any", Due.fault(0, 0));
        wishIs(x, "any\tor any", Due.fault(3, 0));
        wishIs(x, "tongue 16", Due.fault(7, 1));
        wishIs(x, "far 100", Due.fault(4, 1));
        wishIs(x, "near 100", Due.fault(5, 1));
        wishIs(x, "old 1000", Due.fault(4, 1));
        wishIs(x, "not", Due.fault(3, 0));
        wishIs(x, "(", Due.fault(1, 0));
        wishIs(x, "()", Due.fault(1, 0));
        wishIs(x, "(any", Due.fault(4, 0));
        wishIs(x, "(any any)", Due.fault(5, 0));
        wishIs(x, "any)", Due.fault(3, 0));
        wishIs(x, "anyor any", Due.fault(0, 0));
        String twelve = many("any or ", 11) + "any";
        wishIs(x, twelve, 12);
        wishIs(x, twelve + " or any", Due.fault(84, 2));
        wishIs(x, twelve + " or zany", Due.fault(84, 0));
        wishIs(x, twelve + " or land 99", Due.fault(84, 2));
        wishIs(x, twelve + " any", Due.fault(81, 0));
        wishIs(x, twelve + " or not any", Due.fault(88, 2));
        wishIs(x, many("(", 10) + "any" + many(")", 10), 1);
        wishIs(x, many("(", 11) + "any" + many(")", 11), Due.fault(10, 3));
        wishIs(x, many("not ", 10) + "any", 1);
        wishIs(x, many("not ", 11) + "any", Due.fault(40, 3));
        wishIs(x, many("not(", 5) + "any" + many(")", 5), 1);
        wishIs(x, many("not(", 5) + "not any" + many(")", 5), Due.fault(20, 3));
        wishIs(x, many("(", 9) + "not any or not any" + many(")", 9), 2);
        wishIs(x, many("(", 9) + "not not any" + many(")", 9), Due.fault(13, 3));
        wishIs(x, many("(", 10) + "any) or (any" + many(")", 10), 2);
        wishIs(x, many("(", 12), Due.fault(10, 3));

        wishIs(x, "land 9", 1);
        Due.is("9 not met", 0, x.meets(0, 1));
        wishIs(x, "any or", Due.fault(6, 0));
        Due.is("that one stays", 0, x.meets(0, 1));
        Due.is("the tape is empty", 0, x.count(8));
        wishIs(x, " ", 0);
        Due.is("gone", 1, x.meets(0, 1));
        Due.tape(x, many(" ", 97) + "any");
        Due.is("100 bytes", 1, x.wish(0));
        Due.tape(x, many(" ", 98) + "any");
        Due.is("101 bytes", NONE, x.wish(0));
        Due.is("nothing happens", 101, x.count(8));
        x.end(100);
        Due.is("no member", NONE, x.wish(2));
        Due.is("-1", NONE, x.wish(-1));
        Due.is("nothing happens", 100, x.count(8));
        Due.is("the rest", Due.fault(98, 0), x.wish(1));
        x.leave(1);
        Due.is("one who left", 1, Due.wish(x, 1, "any"));
    }

    private static void meetsIs(CardClub x, String text, int want) {
        Due.wish(x, 0, text);
        Due.is("'" + text + "'", want, x.meets(0, 1));
    }

    private static void meets() {
        Due.part("9 meets");
        CardClub x = new CardClub();
        x.member(1, 6, NONE);
        x.clock(10);
        x.member(2, 12, NONE);
        x.member(1, 8, NONE);
        x.far(1, 2, 30);
        x.clock(15);
        Due.is("no wish", 1, x.meets(0, 1));
        Due.is("both one", NONE, x.meets(0, 0));
        Due.is("no member", NONE, x.meets(0, 3));
        Due.is("-1", NONE, x.meets(-1, 0));
        meetsIs(x, "land 2", 1);
        meetsIs(x, "land 1", 0);
        meetsIs(x, "tongue 3", 1);
        meetsIs(x, "tongue 1", 0);
        meetsIs(x, "far 30", 1);
        meetsIs(x, "far 31", 0);
        meetsIs(x, "near 30", 1);
        meetsIs(x, "near 29", 0);
        meetsIs(x, "old 5", 1);
        meetsIs(x, "old 6", 0);
        meetsIs(x, "any", 1);
        meetsIs(x, "not any", 0);
        meetsIs(x, "not not any", 1);
        meetsIs(x, "any or any and not any", 1);
        meetsIs(x, "(any or any) and not any", 0);
        meetsIs(x, "not any and not any or any", 1);
        meetsIs(x, "not any or any", 1);
        meetsIs(x, "not(any or any)", 0);
        meetsIs(x, "land 1 or land 2 and tongue 9", 0);
        meetsIs(x, "shared", 1);
        Due.is("not shared", 0, x.meets(0, 2));
        meetsIs(x, "far 0 and near 0", 0);
        Due.is("0 from a land to itself", 1, x.meets(0, 2));
        meetsIs(x, "old 6", 0);
        x.clock(16);
        Due.is("a day later", 1, x.meets(0, 1));
        x.leave(1);
        Due.is("who left", 1, x.meets(0, 1));
        Due.is("by who left", 1, x.meets(1, 0));
    }

    private static void unhappyCounts() {
        Due.part("UNHAPPY and strict");
        CardClub x = Scenes.club(2);
        Due.wish(x, 0, "land 1");
        Due.wish(x, 1, "land 1");
        Due.is("both are unhappy, strict 2", 1, x.may(0, 1));
        Due.rules(x, "strict 1");
        Due.is("strict 1", 0, x.may(0, 1));
        Due.wish(x, 1, "");
        Due.is("one is unhappy, strict 1", 1, x.may(0, 1));
        Due.is("the other way too", 1, x.may(1, 0));
        Due.rules(x, "strict 0");
        Due.is("strict 0", 0, x.may(0, 1));
        Due.is("strict 0, other way", 0, x.may(1, 0));
        Due.wish(x, 0, "land 0");
        Due.is("nobody is", 1, x.may(0, 1));
    }

    private static void rulesAre(CardClub x, String text, int want) {
        Due.is("'" + text + "'", want, Due.rules(x, text));
    }

    private static void rules() {
        Due.part("10 rules");
        CardClub x = new CardClub();
        rulesAre(x, "under 20;more 99;slack 20;lost 400;strict 0", 5);
        int[] told = {20, 99, 20, 400, 0};
        int[] without = {5, 10, 3, 60, 2};
        for (int w = 0; w < 5; w++) {
            Due.is("told " + w, told[w], x.count(10 + w));
        }
        rulesAre(x, "under 21", Due.fault(6, 1));
        rulesAre(x, "under 0", Due.fault(6, 1));
        rulesAre(x, "more 100", Due.fault(5, 1));
        rulesAre(x, "slack 21", Due.fault(6, 1));
        rulesAre(x, "lost 401", Due.fault(5, 1));
        rulesAre(x, "lost 0", Due.fault(5, 1));
        rulesAre(x, "lost 0060", Due.fault(5, 1));
        rulesAre(x, "strict 3", Due.fault(7, 1));
        rulesAre(x, "under", Due.fault(5, 0));
        rulesAre(x, "under x", Due.fault(6, 0));
        rulesAre(x, "unders 3", Due.fault(0, 0));
        rulesAre(x, "; under 3", Due.fault(0, 0));
        rulesAre(x, "under 3;", Due.fault(8, 0));
        rulesAre(x, "under 3 ; ", Due.fault(10, 0));
        rulesAre(x, "under 3 more 3", Due.fault(8, 0));
        rulesAre(x, "under 3;more 3; under 3", Due.fault(16, 2));
        rulesAre(x, "under 3; under", Due.fault(9, 2));
        rulesAre(x, "under 3; more 3; slack 3; lost 3; strict 1; lost 3", Due.fault(44, 2));
        for (int w = 0; w < 5; w++) {
            Due.is("those ahead stay " + w, told[w], x.count(10 + w));
        }
        Due.is("the tape is empty", 0, x.count(8));
        rulesAre(x, " strict 1 ; under 7 ", 2);
        int[] both = {7, 10, 3, 60, 1};
        for (int w = 0; w < 5; w++) {
            Due.is("the rest as without " + w, both[w], x.count(10 + w));
        }
        rulesAre(x, "  ", 0);
        for (int w = 0; w < 5; w++) {
            Due.is("without " + w, without[w], x.count(10 + w));
        }
        Due.tape(x, many(" ", 101));
        Due.is("101 bytes", NONE, x.rules());
        Due.is("nothing happens", 101, x.count(8));
        x.end(100);
        Due.is("100 bytes", 0, x.rules());
    }

    private static void ask() {
        Due.part("11 ask");
        CardClub x = Scenes.club(3);
        Due.is("no member", NONE, x.ask(3));
        Due.is("-1", NONE, x.ask(-1));
        Due.is("first card", 0, x.ask(0));
        Due.is("to the least", 1, x.card(0, 1));
        Due.is("second", 1, x.ask(0));
        Due.is("to the next", 2, x.card(1, 1));
        Due.is("nobody is left", -3, x.ask(0));
        Due.rules(x, "under 2");
        Due.is("OUT is under", -2, x.ask(0));
        x.arrive(0, 0);
        Due.is("nobody may get", -3, x.ask(0));
        x.leave(0);
        Due.is("who left", -2, x.ask(0));

        Due.part("11 ask, more");
        x = Scenes.club(12);
        Due.rules(x, "under 1; more 2; slack 20");
        Due.is("1st", 0, x.ask(0));
        Due.is("2nd", -2, x.ask(0));
        x.arrive(0, 0);
        Due.is("2nd", 1, x.ask(0));
        x.arrive(1, 0);
        Due.is("3rd", 2, x.ask(0));
        Due.is("4th, two given", 3, x.ask(0));
        Due.is("5th", -2, x.ask(0));
        Due.rules(x, "under 1; more 0; slack 20");
        x.arrive(2, 0);
        Due.is("more 0: none", -2, x.ask(0));
        Due.is("may ask", 0, x.about(0, 6));
        x.arrive(3, 0);
        Due.is("may ask", 1, x.about(0, 6));
        Due.is("OUT 0", 4, x.ask(0));
    }

    private static void askOrder() {
        Due.part("11 ask, order");
        CardClub x = Scenes.club(5);
        x.ask(4);
        x.arrive(0, 0);
        Due.is("4 has given", 1, x.about(4, 5));
        Due.is("most OWED ahead", 4, x.card(x.ask(1), 1));
        // OWED now: 0: -1, 1: 0, 2: 0, 3: 0, 4: 0.
        Due.wish(x, 2, "land 9");
        Due.is("least UNHAPPY ahead", 1, x.card(x.ask(3), 1));
        // OWED now: 0: -1, 1: -1, 2: 0, 3: 0, 4: 0.
        Due.is("never ahead of all", 3, x.card(x.ask(0), 1));
        x.arrive(1, 0);
        x.arrive(2, 0);
        x.arrive(3, 0);
        Due.rules(x, "slack 20");
        // GIVEN: 0: 1, 1: 1, 3: 1, 4: 1; GOT: 0: 1, 1: 1, 3: 1, 4: 1. All are OWED 0.
        for (int m = 0; m < 5; m++) {
            Due.is("OWED " + m, 0, x.about(m, 5));
        }
        Due.wish(x, 2, "");
        Due.is("2 never got", 2, x.card(x.ask(0), 1));

        x = Scenes.club(3);
        Due.rules(x, "slack 20");
        x.clock(1);
        Scenes.swap(x, 0, 2);
        x.clock(2);
        Scenes.swap(x, 1, 2);
        for (int c = 0; c < 4; c++) {
            x.arrive(c, 2);
        }
        x.member(0, 0, NONE);
        x.clock(3);
        x.member(0, 0, NONE);
        Due.is("3 never", 3, x.card(x.ask(4), 1));
        // Of 0, 1, 2 (all OWED 0) the one sent to on day 1 is 0; 1 and 2 on day 2.
        Due.is("longest ago", 0, x.card(x.ask(4), 1));
        Due.is("of one day the least", 1, x.card(x.ask(4), 1));
        Due.is("then the other", 2, x.card(x.ask(4), 1));
    }

    private static void may() {
        Due.part("12 may");
        CardClub x = new CardClub();
        x.member(0, 0, 3);
        x.member(0, 0, 3);
        x.member(0, 0, NONE);
        x.member(0, 0, NONE);
        Due.is("himself", 0, x.may(0, 0));
        Due.is("of his family", 0, x.may(0, 1));
        Due.is("other", 1, x.may(0, 2));
        Due.is("both alone", 1, x.may(2, 3));
        Due.is("no b", NONE, x.may(0, 4));
        Due.is("no a", NONE, x.may(-1, 0));
        int c = x.ask(0);
        Due.is("to 2", 2, x.card(c, 1));
        Due.is("had one from 0", 0, x.may(0, 2));
        Due.is("had one from his family", 0, x.may(1, 2));
        Due.is("not the other way", 1, x.may(2, 1));
        x.leave(0);
        Due.is("the family of one who left", 0, x.may(1, 2));
        Due.is("a need not be there", 1, x.may(0, 3));
        Due.is("b must be there", 0, x.may(2, 0));
        Due.rules(x, "slack 0");
        Due.is("OWED 0 and slack 0", 0, x.may(1, 3));
        Due.rules(x, "slack 1");
        Due.is("OWED 0 and slack 1", 1, x.may(1, 3));
        Due.is("OWED -1 and slack 1", 0, x.may(3, 2));
        Due.rules(x, "slack 2");
        Due.is("OWED -1 and slack 2", 1, x.may(3, 2));
        x.leave(2);
        x = Scenes.club(3);
        x.offer(0, 0, 2);
        x.offer(1, 1, 1);
        x.rings();
        x.close(0);
        Due.is("a card of a ring counts", 0, x.may(0, 1));
        x.drop(0, 0);
        Due.is("a cancelled one too", 0, x.may(0, 1));
    }

    private static void list() {
        Due.part("13 list");
        CardClub x = Scenes.club(10);
        Due.is("no member", NONE, x.list(10));
        Due.is("-1", NONE, x.list(-1));
        x.leave(0);
        Due.is("who left", 1, x.list(0));
        Due.is("on it already", NONE, x.list(0));
        for (int m = 1; m < 8; m++) {
            Due.is("next", m + 1, x.list(m));
        }
        Due.is("9th", NONE, x.list(8));
        Due.is("count", 8, x.count(9));
        Due.is("give", 7, x.give());
        Due.is("empty then", 0, x.count(9));
        Due.is("again", 1, x.list(8));
    }

    private static void give() {
        Due.part("14 give");
        CardClub x = new CardClub();
        x.member(0, 0, 0);
        x.member(0, 0, 1);
        x.member(0, 0, 0);
        x.member(0, 0, 1);
        // Two families of two: each may send to the two of the other one.
        for (int m = 0; m < 4; m++) {
            x.list(m);
        }
        Due.is("give", 4, x.give());
        int[] to = {1, 0, 3, 2};
        for (int c = 0; c < 4; c++) {
            Due.is("from", c, x.card(c, 0));
            Due.is("to", to[c], x.card(c, 1));
        }
        x.list(0);
        Due.is("his family sent to all of the other one", 0, x.give());
        Due.is("the list is empty then", 0, x.count(9));
    }

    private static void giveOrder() {
        Due.part("14 give, order");
        CardClub x = Scenes.club(4);
        Due.rules(x, "slack 1");
        // 1 alone may get from 0: 2 and 3 got one from him. 0 comes last, but all are to send.
        Due.is("ask", 1, x.card(x.ask(0), 1));
        Due.is("ask", 2, x.card(x.ask(0), 1));
        x.arrive(0, 0);
        x.arrive(1, 0);
        // OWED: 0: 2, 1: -1, 2: -1, 3: 0. MAY GET: 0 and 3. 0 can send to 3 alone.
        x.list(1);
        x.list(0);
        Due.is("most", 2, x.give());
        Due.is("1 to 0", 0, x.card(2, 1));
        Due.is("0 to 3", 3, x.card(3, 1));
        Due.is("in the order of the list", 1, x.card(2, 0));

        x = Scenes.club(6);
        Due.wish(x, 0, "land 5");
        x.far(0, 5, 1);
        x.member(5, 0, NONE);
        x.list(0);
        x.list(1);
        Due.is("least UNHAPPY", 2, x.give());
        Due.is("0 to the one who meets his wish", 6, x.card(0, 1));
        Due.is("1 to the least that doesn't wish", 2, x.card(1, 1));

        x = Scenes.club(4);
        x.ask(3);
        x.arrive(0, 0);
        // OWED: 3: 1, 0: -1, 1: 0, 2: 0.
        x.list(0);
        x.list(1);
        Due.is("greatest OWED", 2, x.give());
        Due.is("0 to 1", 1, x.card(1, 1));
        Due.is("1 to 3", 3, x.card(2, 1));

        x = Scenes.club(2);
        x.list(1);
        x.list(0);
        x.leave(0);
        Due.is("who left is left out and gets none", 0, x.give());

        x = Scenes.club(3);
        Due.rules(x, "slack 1");
        x.ask(0);
        x.ask(1);
        // OWED: 1: -1, 2: -1. 0 alone may get.
        x.list(1);
        x.list(2);
        Due.is("one only", 1, x.give());
        Due.is("the first of the list, nobody behind all", 1, x.card(2, 0));
    }

    private static void arriveAndBack() {
        Due.part("15 arrive, 16 back");
        CardClub x = Scenes.club(3);
        x.clock(5);
        x.ask(0);
        x.clock(10);
        Due.no("ahead of the sending", x.arrive(0, 4));
        Due.no("behind now", x.arrive(0, 11));
        Due.no("no card", x.arrive(1, 5));
        Due.no("-1", x.arrive(-1, 5));
        Due.no("none told", x.back(0));
        Due.no("no card", x.back(1));
        Due.is("tellings", 0, x.count(4));
        Due.yes("on the day of sending", x.arrive(0, 5));
        Due.is("day", 5, x.card(0, 4));
        Due.yes("told anew, now", x.arrive(0, 10));
        Due.is("day", 10, x.card(0, 4));
        Due.yes("back", x.back(0));
        Due.is("day", NONE, x.card(0, 4));
        Due.no("taken back since", x.back(0));
        Due.yes("and told again", x.arrive(0, 6));
        Due.is("tellings", 4, x.count(4));
        Due.yes("back again", x.back(0));
        x.leave(1);
        Due.is("cancelled", 4, x.state(0, 10, 10));
        Due.no("arrive, cancelled", x.arrive(0, 10));
        Due.no("back, cancelled", x.back(0));
        Due.is("tellings", 5, x.count(4));
    }

    private static void tellingsFull() {
        Due.part("600 tellings");
        CardClub x = Scenes.club(2);
        x.ask(0);
        for (int i = 0; i < 300; i++) {
            Due.yes("arrive", x.arrive(0, 0));
            Due.yes("back", x.back(0));
        }
        Due.no("601st", x.arrive(0, 0));
        Due.is("tellings", 600, x.count(4));
        x = Scenes.club(2);
        x.ask(0);
        for (int i = 0; i < 600; i++) {
            x.arrive(0, 0);
        }
        Due.no("601st is a taking back", x.back(0));
        Due.is("still arrived", 0, x.card(0, 4));
    }

    private static void card() {
        Due.part("17 card");
        CardClub x = Scenes.club(2);
        x.clock(3);
        x.ask(1);
        int[] want = {1, 0, 3, 60, NONE, NONE, NONE, NONE};
        for (int w = 0; w < want.length; w++) {
            Due.is("what " + w, want[w], x.card(0, w));
        }
        Due.is("what -1", NONE, x.card(0, -1));
        Due.is("no card", NONE, x.card(1, 2));
        Due.is("-1", NONE, x.card(-1, 2));
        x.clock(4);
        x.leave(0);
        Due.is("cancelled", 4, x.card(0, 6));
        x = Scenes.club(2);
        Scenes.swap(x, 0, 1);
        Due.is("ring", 0, x.card(0, 5));
        Due.is("ring", 0, x.card(1, 5));
        x.drop(0, 0);
        Due.is("still of it", 0, x.card(0, 5));
    }

    private static void state() {
        Due.part("18 state");
        CardClub x = Scenes.club(4);
        Due.rules(x, "lost 10");
        x.clock(100);
        x.ask(0);
        x.clock(120);
        x.arrive(0, 105);
        x.clock(130);
        x.arrive(0, 112);
        x.clock(140);
        x.back(0);
        Due.is("ahead of its sending", NONE, x.state(0, 99, 120));
        Due.is("no card", NONE, x.state(1, 100, 100));
        Due.is("day -1", NONE, x.state(0, -1, 100));
        Due.is("day 2000", NONE, x.state(0, 2000, 100));
        Due.is("known -1", NONE, x.state(0, 100, -1));
        Due.is("known 2000", NONE, x.state(0, 100, 2000));
        Due.is("under way", 0, x.state(0, 109, 119));
        Due.is("lost", 2, x.state(0, 110, 119));
        Due.is("not yet arrived", 0, x.state(0, 104, 120));
        Due.is("arrived", 1, x.state(0, 105, 120));
        Due.is("still", 1, x.state(0, 1999, 129));
        Due.is("by the later telling not yet", 0, x.state(0, 105, 130));
        Due.is("lost ahead of the late day", 2, x.state(0, 111, 139));
        Due.is("late", 3, x.state(0, 112, 139));
        Due.is("taken back", 2, x.state(0, 112, 140));
        Due.is("taken back", 0, x.state(0, 105, 1999));
        Due.is("known ahead of all", 2, x.state(0, 200, 0));
        x.clock(150);
        int c = x.ask(2);
        x.arrive(c, 150);
        x.clock(170);
        x.arrive(c, 159);
        Due.is("a day less than bound", 1, x.state(c, 170, 170));
        x.arrive(c, 160);
        Due.is("bound days", 3, x.state(c, 170, 170));
        Due.is("ahead of that arrival", 0, x.state(c, 159, 170));
        Due.is("as known a day ahead", 1, x.state(c, 159, 169));
        x.arrive(c, 155);
        Due.is("of one day the latest telling", 1, x.state(c, 159, 170));

        x = Scenes.club(3);
        x.clock(10);
        x.ask(0);
        x.clock(15);
        x.arrive(0, 12);
        x.clock(16);
        x.back(0);
        x.clock(20);
        x.leave(1);
        Due.is("cancelled", 4, x.state(0, 20, 20));
        Due.is("from it on", 4, x.state(0, 1999, 1999));
        Due.is("ahead of it", 0, x.state(0, 19, 20));
        Due.is("not known yet", 0, x.state(0, 20, 19));
        Due.is("as known then", 1, x.state(0, 20, 15));
    }

    private static void bound() {
        Due.part("BOUND");
        CardClub x = new CardClub();
        for (int m = 0; m < 16; m++) {
            x.member(m < 2 ? m : 2, 0, NONE);
        }
        Due.rules(x, "under 20; slack 20; lost 50");
        int c = x.ask(0);
        Due.is("without any: lost", 50, x.card(c, 3));
        Due.is("from land 0 to land 1", 1, x.card(c, 1));
        int d = x.ask(0);
        Due.is("from land 0 to land 2", 50, x.card(d, 3));
        x.clock(4);
        x.arrive(d, 4);
        Due.is("twice 4 and 7", 15, x.card(x.ask(0), 3));
        Due.is("from land 1", 50, x.card(x.ask(1), 3));
        x.clock(30);
        x.arrive(d, 30);
        Due.is("lost at most", 50, x.card(x.ask(0), 3));
        x.back(d);
        Due.is("taken back", 50, x.card(x.ask(0), 3));
        x.arrive(d, 0);
        Due.is("7 at least", 7, x.card(x.ask(0), 3));
        Due.rules(x, "under 20; slack 20; lost 3");
        Due.is("lost 3", 3, x.card(x.ask(0), 3));
        Due.is("as it was sent", 50, x.card(c, 3));

        Due.part("BOUND, the last ten");
        x = Scenes.club(16);
        Due.rules(x, "under 20; slack 20; lost 400");
        for (int i = 0; i < 11; i++) {
            x.ask(0);
        }
        x.clock(100);
        for (int i = 0; i < 11; i++) {
            x.arrive(i, 50 - i);
        }
        // Cards 1 to 10 are the last ten: 40 to 49.
        Due.is("twice 49 and 7", 105, x.card(x.ask(0), 3));
        Due.is("greatest", 49, x.span(0, 0, 1));
        Due.is("least", 40, x.span(0, 0, 0));
        x.arrive(0, 50);
        Due.is("told anew it is the last", 50, x.span(0, 0, 1));
        Due.is("and 1 is out", 40, x.span(0, 0, 0));
        x.back(5);
        Due.is("taken back: 1 is in again", 10, x.span(0, 0, 2));
        x.back(0);
        Due.is("greatest", 49, x.span(0, 0, 1));
        Due.is("nine", 9, x.span(0, 0, 2));
    }

    private static void about() {
        Due.part("19 about");
        CardClub x = new CardClub();
        x.clock(2);
        x.member(4, 0, NONE);
        x.member(5, 0, NONE);
        x.member(6, 0, NONE);
        x.member(7, 0, NONE);
        x.ask(0);
        x.ask(0);
        x.ask(0);
        x.ask(1);
        Due.is("1 to 0", 0, x.card(3, 1));
        x.arrive(0, 2);
        x.clock(62);
        x.arrive(1, 62);
        int[] want = {2, 0, 0, 0, 0, 2, 1, 4, 1, 2, 1};
        for (int w = 0; w < want.length; w++) {
            Due.is("what " + w, want[w], x.about(0, w));
        }
        Due.is("1 got", 1, x.about(1, 1));
        Due.is("1 OWED", -1, x.about(1, 5));
        Due.is("1 lost", 1, x.about(1, 10));
        Due.is("2 got a late one", 1, x.about(2, 1));
        x.ask(1);
        Due.is("OUT", 1, x.about(1, 3));
        int to = x.card(4, 1);
        Due.is("to 3, for 0 had one", 3, to);
        Due.is("COMING", 1, x.about(3, 2));
        Due.is("COMING counts", -1, x.about(3, 5));
        x.leave(3);
        Due.is("credit", 1, x.about(1, 4));
        Due.is("credit counts", 0, x.about(1, 5));
        Due.is("there", 0, x.about(3, 8));
        Due.is("may ask", 0, x.about(3, 6));
        Due.is("OUT", 0, x.about(1, 3));
        Due.is("COMING", 0, x.about(3, 2));
        for (int w = -1; w < 12; w++) {
            Due.is("no member, what " + w, w == 5 ? -1000 : NONE, x.about(4, w));
            Due.is("-1, what " + w, w == 5 ? -1000 : NONE, x.about(-1, w));
        }
        Due.is("what 11", NONE, x.about(0, 11));
        Due.is("what -1", NONE, x.about(0, -1));
    }

    private static void album() {
        Due.part("20 album");
        CardClub x = new CardClub();
        x.member(0, 0, NONE);
        x.member(15, 0, NONE);
        x.member(3, 0, NONE);
        Due.rules(x, "slack 20");
        x.offer(0, 0, 14);
        x.offer(1, 1, 1);
        x.rings();
        x.close(0);
        Due.is("none", 0, x.album(0));
        x.offer(0, 0, 4);
        x.offer(2, 2, 1);
        x.rings();
        x.close(0);
        // Cards: 0: 0 to 1, 1: 1 to 0, 2: 0 to 2, 3: 2 to 0.
        x.arrive(1, 0);
        Due.is("land 15", 1 << 15, x.album(0));
        x.clock(90);
        x.arrive(3, 90);
        Due.is("a late one too", 1 << 15 | 1 << 3, x.album(0));
        x.back(1);
        Due.is("taken back", 1 << 3, x.album(0));
        Due.is("no member", NONE, x.album(3));
        Due.is("-1", NONE, x.album(-1));
    }

    private static void span() {
        Due.part("21 span");
        CardClub x = new CardClub();
        x.member(1, 0, NONE);
        x.member(2, 0, NONE);
        x.member(2, 0, NONE);
        x.ask(0);
        x.ask(0);
        x.clock(9);
        Due.is("least, without any", NONE, x.span(1, 2, 0));
        Due.is("greatest, without any", NONE, x.span(1, 2, 1));
        Due.is("how many", 0, x.span(1, 2, 2));
        x.arrive(0, 9);
        x.arrive(1, 3);
        Due.is("least", 3, x.span(1, 2, 0));
        Due.is("greatest", 9, x.span(1, 2, 1));
        Due.is("how many", 2, x.span(1, 2, 2));
        Due.is("other way", 0, x.span(2, 1, 2));
        Due.is("one land", 0, x.span(2, 2, 2));
        Due.is("what 3", NONE, x.span(1, 2, 3));
        Due.is("what -1", NONE, x.span(1, 2, -1));
        Due.is("land 16", NONE, x.span(1, 16, 2));
        Due.is("land -1", NONE, x.span(-1, 2, 2));
    }

    private static void offer() {
        Due.part("22 offer, 23 away, 28 offers");
        CardClub x = Scenes.club(2);
        Due.is("0", 0, x.offer(0, 31, -1));
        Due.is("1", 1, x.offer(1, 0, 0));
        Due.is("kind 32", NONE, x.offer(0, 32, 0));
        Due.is("kind -1", NONE, x.offer(0, -1, 0));
        Due.is("no member", NONE, x.offer(2, 0, 0));
        Due.is("-1", NONE, x.offer(-1, 0, 0));
        x.leave(1);
        Due.is("who left", NONE, x.offer(1, 0, 0));
        Due.is("member", 0, x.offers(0, 0));
        Due.is("kind", 31, x.offers(0, 1));
        Due.is("wants", -1, x.offers(0, 2));
        Due.is("open", 0, x.offers(0, 3));
        Due.is("of no ring", NONE, x.offers(0, 4));
        Due.is("what 5", NONE, x.offers(0, 5));
        Due.is("what -1", NONE, x.offers(0, -1));
        for (int w = 0; w < 5; w++) {
            Due.is("no offer", NONE, x.offers(2, w));
            Due.is("-1", NONE, x.offers(-1, w));
        }
        Due.is("his offer went", 2, x.offers(1, 3));
        Due.no("away, gone", x.away(1));
        Due.yes("away", x.away(0));
        Due.no("away again", x.away(0));
        Due.no("no offer", x.away(2));
        Due.no("-1", x.away(-1));
        Due.is("taken away", 2, x.offers(0, 3));
        for (int o = 2; o < 20; o++) {
            Due.is("next", o, x.offer(0, 0, 0));
        }
        Due.is("21st", NONE, x.offer(0, 0, 0));
        Due.is("count", 20, x.count(5));
    }

    private static void rings() {
        Due.part("24 rings, 25 ring");
        CardClub x = new CardClub();
        for (int m = 0; m < 6; m++) {
            x.member(0, 0, m < 2 ? 7 : NONE);
        }
        x.offer(0, 0, 2);
        x.offer(1, 1, 1);
        Due.is("of one family", 0, x.rings());
        x.offer(0, 2, 8);
        x.offer(0, 3, 4);
        Due.is("of one member", 0, x.rings());
        x.offer(2, 4, 4);
        x.away(2);
        x.offer(0, 2, 1 << 4);
        Due.is("two", 1, x.rings());
        Due.is("from the least on", 4, x.ring(0, 0));
        Due.is("the other", 5, x.ring(0, 1));
        Due.is("no third", NONE, x.ring(0, 2));
        Due.is("-1", NONE, x.ring(0, -1));
        Due.is("no ring 1", NONE, x.ring(1, 0));
        Due.is("no ring -1", NONE, x.ring(-1, 0));
        x.away(5);
        Due.is("found last", 5, x.ring(0, 1));
        Due.is("taken away", 0, x.rings());
        Due.is("none now", NONE, x.ring(0, 0));

        x = Scenes.club(6);
        for (int m = 0; m < 5; m++) {
            x.offer(m, m, 1 << (m + 4) % 5);
        }
        Due.is("five", 1, x.rings());
        for (int i = 0; i < 5; i++) {
            Due.is("each one's is wanted by the next", i, x.ring(0, i));
        }
        x = Scenes.club(6);
        for (int m = 0; m < 6; m++) {
            x.offer(m, m, 1 << (m + 5) % 6);
        }
        Due.is("six is too long", 0, x.rings());

        x = Scenes.club(14);
        for (int m = 0; m < 11; m++) {
            x.offer(m, 30, 0);
        }
        x.offer(11, 0, 2);
        x.offer(12, 1, 1);
        Due.is("the thirteenth open one", 0, x.rings());
        x.away(3);
        Due.is("is the twelfth now", 1, x.rings());
        Due.is("11", 11, x.ring(0, 0));
        Due.is("12", 12, x.ring(0, 1));
    }

    private static void ringsOrder() {
        Due.part("24 rings, order");
        // 0 with 1 is a ring, and 0 with 2, and 1 with 3: two rings have four offers.
        CardClub x = Scenes.club(4);
        x.offer(0, 0, 1 << 1 | 1 << 2);
        x.offer(1, 1, 1 << 0 | 1 << 3);
        x.offer(2, 2, 1 << 0);
        x.offer(3, 3, 1 << 1);
        Due.is("most offers", 2, x.rings());
        Due.is("0 with", 2, x.ring(0, 1));
        Due.is("1 with", 3, x.ring(1, 1));

        // All want all: four make one ring rather than two.
        x = Scenes.club(4);
        for (int m = 0; m < 4; m++) {
            x.offer(m, m, -1);
        }
        Due.is("fewest rings", 1, x.rings());
        for (int i = 0; i < 4; i++) {
            Due.is("the first", i, x.ring(0, i));
        }
        // Six: of two rings (2 and 4, 3 and 3, 4 and 2) the shorter one that is alike goes ahead.
        x.member(0, 0, NONE);
        x.member(0, 0, NONE);
        x.offer(4, 4, -1);
        x.offer(5, 5, -1);
        Due.is("six", 2, x.rings());
        Due.is("0, 1", 1, x.ring(0, 1));
        Due.is("and no more", NONE, x.ring(0, 2));
        Due.is("2 to 5", 5, x.ring(1, 3));
        for (int m = 6; m < 12; m++) {
            x.member(0, 0, NONE);
            x.offer(m, m, -1);
        }
        Due.is("twelve", 3, x.rings());
        Due.is("two", NONE, x.ring(0, 2));
        Due.is("five", 6, x.ring(1, 4));
        Due.is("five", 11, x.ring(2, 4));

        // An offer of no ring is behind all rings that it could begin: 0, 1, 2 of which only two can be.
        x = Scenes.club(3);
        x.offer(0, 0, 1 << 1);
        x.offer(1, 1, 1 << 0 | 1 << 2);
        x.offer(2, 2, 1 << 1);
        Due.is("one", 1, x.rings());
        Due.is("0", 0, x.ring(0, 0));
        Due.is("1", 1, x.ring(0, 1));
    }

    private static void close() {
        Due.part("26 close");
        CardClub x = Scenes.club(3);
        Due.is("none found", NONE, x.close(0));
        x.offer(0, 0, 1 << 2);
        x.offer(1, 1, 1 << 0);
        x.offer(2, 2, 1 << 1);
        Due.is("rings", 1, x.rings());
        Due.is("ring 1", NONE, x.close(1));
        Due.is("ring -1", NONE, x.close(-1));
        x.clock(8);
        Due.is("closed", 0, x.close(0));
        Due.is("not open any more", NONE, x.close(0));
        Due.is("cards", 3, x.count(3));
        for (int c = 0; c < 3; c++) {
            Due.is("from", c, x.card(c, 0));
            Due.is("to", (c + 1) % 3, x.card(c, 1));
            Due.is("sent", 8, x.card(c, 2));
            Due.is("ring", 0, x.card(c, 5));
            Due.is("of a ring", 1, x.offers(c, 3));
            Due.is("which", 0, x.offers(c, 4));
            Due.no("not away", x.away(c));
        }
        Due.is("closed", 1, x.count(6));
        Due.is("none open", 0, x.rings());
        Scenes.swap(x, 0, 1);
        Due.is("the next number", 1, x.card(3, 5));
        x.offer(0, 0, 2);
        x.offer(2, 1, 1);
        x.rings();
        x.away(5);
        Due.is("one taken away", NONE, x.close(0));
        Due.is("nothing happens", 0, x.offers(6, 3));
        Due.is("nothing happens", 5, x.count(3));
        Due.is("nothing happens", 2, x.count(6));
    }

    private static void drop() {
        Due.part("27 drop");
        CardClub x = Scenes.club(4);
        Due.is("no ring", NONE, x.drop(0, 0));
        x.offer(0, 0, 1 << 2);
        x.offer(1, 1, 1 << 0);
        x.offer(2, 2, 1 << 1);
        x.rings();
        x.close(0);
        Due.is("ring 1", NONE, x.drop(1, 0));
        Due.is("ring -1", NONE, x.drop(-1, 0));
        Due.is("an open offer", 3, x.offer(3, 0, 0));
        Due.is("ring -1, of one with an open offer", NONE, x.drop(-1, 3));
        Due.is("it is open still", 0, x.offers(3, 3));
        Due.is("not of it", NONE, x.drop(0, 3));
        Due.is("no member", NONE, x.drop(0, 4));
        Due.is("-1", NONE, x.drop(0, -1));
        x.clock(3);
        Due.is("0 drops out", 1, x.drop(0, 0));
        Due.is("cancelled", 3, x.card(0, 6));
        Due.is("others stay", NONE, x.card(1, 6));
        Due.is("others stay", NONE, x.card(2, 6));
        Due.is("credit of 1", 1, x.about(1, 4));
        Due.is("his offer", 2, x.offers(0, 3));
        Due.is("of no ring", NONE, x.offers(0, 4));
        Due.is("the others' offers", 1, x.offers(1, 3));
        Due.is("again", NONE, x.drop(0, 0));
        x.arrive(1, 3);
        Due.is("1: it has arrived", 0, x.drop(0, 1));
        Due.is("no credit", 0, x.about(2, 4));
        Due.is("his offer", 2, x.offers(1, 3));
        Due.is("cards stay", 1, x.state(1, 3, 3));
        x.leave(0);
        Due.is("2: to 0, who left", 0, x.drop(0, 2));
        Due.is("credit of 2 by the leaving", 1, x.about(2, 4));
        Due.is("no credit for 0", 0, x.about(0, 4));
    }

    private static void ratesAre(CardClub x, int day, String text, int want) {
        Due.is("'" + text + "'", want, Due.rates(x, day, text));
    }

    private static void rates() {
        Due.part("29 rates");
        CardClub x = new CardClub();
        ratesAre(x, 0, "zone 0 20 110", 1);
        ratesAre(x, 1999, " zone 3 500 900 ; zone 3 501 1", Due.fault(25, 1));
        ratesAre(x, 1999, " zone 3 500 900 ; zone 2 500 900;zone 1 1 1", 3);
        Due.is("the tape is empty", 0, x.count(8));
        ratesAre(x, 0, "", Due.fault(0, 0));
        ratesAre(x, 0, "  ", Due.fault(2, 0));
        ratesAre(x, 0, "zones 0 1 1", Due.fault(0, 0));
        ratesAre(x, 0, "zone", Due.fault(4, 0));
        ratesAre(x, 0, "zone 4 1 1", Due.fault(5, 1));
        ratesAre(x, 0, "zone 0", Due.fault(6, 0));
        ratesAre(x, 0, "zone 0 0 1", Due.fault(7, 1));
        ratesAre(x, 0, "zone 0 501 1", Due.fault(7, 1));
        ratesAre(x, 0, "zone 0 1 0", Due.fault(9, 1));
        ratesAre(x, 0, "zone 0 1 901", Due.fault(9, 1));
        ratesAre(x, 0, "zone 0 1 0001", Due.fault(9, 1));
        ratesAre(x, 0, "zone 0 1;1", Due.fault(8, 0));
        ratesAre(x, 0, "zone 0 1 1 1", Due.fault(11, 0));
        ratesAre(x, 0, "zone 0 1 1;", Due.fault(11, 0));
        ratesAre(x, 0, "zone 0 1 1;;", Due.fault(11, 0));
        ratesAre(x, 0, "zone 0 5 1;zone 1 9 1;zone 0 5 1", Due.fault(29, 1));
        ratesAre(x, 0, "zone 0 5 1;zone 1 9 1;zone 0 4 901", Due.fault(29, 1));
        ratesAre(x, 0, "zone 0 5 1;zone 1 4 1;zone 0 6 1", 3);
        String twelve = "";
        for (int c = 1; c <= 12; c++) {
            twelve += (c == 1 ? "" : ";") + "zone 0 " + c + " 1";
        }
        ratesAre(x, 0, twelve, 12);
        ratesAre(x, 0, twelve + ";zone 9 9 9", Due.fault(twelve.length() + 1, 2));
        ratesAre(x, 0, twelve + ";zon", Due.fault(twelve.length() + 1, 0));
        ratesAre(x, 0, twelve + ";", Due.fault(twelve.length() + 1, 0));
        Due.is("a fault tells nothing", 4, x.count(7));
        Due.tape(x, "zone 0 1 1");
        Due.is("day -1", NONE, x.rates(-1));
        Due.is("day 2000", NONE, x.rates(2000));
        Due.is("nothing happens", 10, x.count(8));
        for (int r = 4; r < 10; r++) {
            ratesAre(x, 5, "zone 0 1 1", 1);
        }
        ratesAre(x, 5, "zone 0 1 1", NONE);
        Due.is("nothing happens", 10, x.count(8));
        Due.is("ten", 10, x.count(7));
    }

    private static void price() {
        Due.part("30 price");
        CardClub x = new CardClub();
        Due.is("none told", -2, x.price(0, 0, 1, 0));
        Due.rates(x, 10, "zone 0 20 10; zone 0 50 15; zone 1 20 30; zone 2 20 60; zone 3 20 90");
        x.far(0, 1, 19);
        x.far(0, 2, 20);
        x.far(0, 3, 49);
        x.far(0, 4, 50);
        x.far(0, 5, 0);
        Due.is("ahead of the day", -2, x.price(0, 0, 20, 9));
        Due.is("zone 0", 10, x.price(0, 0, 20, 10));
        Due.is("21 grams", 15, x.price(0, 0, 21, 10));
        Due.is("1 gram", 10, x.price(0, 0, 1, 1999));
        Due.is("50 grams", 15, x.price(0, 0, 50, 10));
        Due.is("51 grams", -2, x.price(0, 0, 51, 10));
        Due.is("19 far", 30, x.price(0, 1, 20, 10));
        Due.is("0 far", 30, x.price(5, 0, 20, 10));
        Due.is("20 far", 60, x.price(2, 0, 20, 10));
        Due.is("49 far", 60, x.price(0, 3, 20, 10));
        Due.is("50 far", 90, x.price(0, 4, 20, 10));
        Due.is("grams 0", NONE, x.price(0, 0, 0, 10));
        Due.is("grams 501", NONE, x.price(0, 0, 501, 10));
        Due.is("grams 500", -2, x.price(0, 0, 500, 10));
        Due.is("land 16", NONE, x.price(0, 16, 1, 10));
        Due.is("land -1", NONE, x.price(-1, 0, 1, 10));
        Due.is("day 2000", NONE, x.price(0, 0, 1, 2000));
        Due.is("day -1", NONE, x.price(0, 0, 1, -1));
        Due.rates(x, 5, "zone 0 20 1");
        Due.is("the latest day", 10, x.price(0, 0, 20, 10));
        Due.is("an earlier one", 1, x.price(0, 0, 20, 9));
        Due.rates(x, 10, "zone 0 500 7");
        Due.is("of one day the last told", 7, x.price(0, 0, 20, 10));
        Due.is("those alone hold", -2, x.price(0, 1, 20, 10));
    }

    private static void pay() {
        Due.part("31 stamps, 32 pay, 33 paid");
        CardClub x = new CardClub();
        x.member(0, 0, NONE);
        x.member(1, 0, NONE);
        x.ask(0);
        Due.is("no price", -2, x.pay(0, 20));
        x.clock(3);
        Due.rates(x, 3, "zone 1 20 100");
        Due.is("an empty drawer", -3, x.pay(0, 20));
        Due.is("no card", NONE, x.pay(1, 20));
        Due.is("-1", NONE, x.pay(-1, 20));
        Due.is("grams 0", NONE, x.pay(0, 0));
        Due.is("grams 501", NONE, x.pay(0, 501));
        Due.no("kind 8", x.stamps(8, 1, 1));
        Due.no("kind -1", x.stamps(-1, 1, 1));
        Due.no("value 0", x.stamps(0, 0, 1));
        Due.no("value 501", x.stamps(0, 501, 1));
        Due.no("many 51", x.stamps(0, 1, 51));
        Due.no("many -1", x.stamps(0, 1, -1));
        Due.is("not told", NONE, x.count(30));
        Due.yes("told", x.stamps(7, 33, 3));
        Due.is("99 are too few", -3, x.pay(0, 20));
        Due.is("none went", NONE, x.paid(7));
        Due.is("none went", 3, x.count(27));
        Due.yes("told", x.stamps(0, 500, 50));
        Due.is("the least sum", 500, x.pay(0, 20));
        Due.is("one went", 1, x.paid(0));
        Due.is("none of these", 0, x.paid(7));
        Due.is("kind 8", NONE, x.paid(8));
        Due.is("kind -1", NONE, x.paid(-1));
        Due.is("they go out", 49, x.count(20));
        x.stamps(0, 2, 1);
        Due.is("paid again", 101, x.pay(0, 1));
        Due.is("three", 3, x.paid(7));
        Due.is("one", 1, x.paid(0));
        Due.is("empty", -3, x.pay(0, 1));
        Due.is("as paid latest", 3, x.paid(7));
        Due.is("values stay", 33, x.count(37));
        Due.is("none left", 0, x.count(27));
        Due.yes("50 of 1", x.stamps(3, 1, 50));
        Due.yes("50 of 1", x.stamps(4, 1, 50));
        Due.is("many", 100, x.pay(0, 1));
        Due.is("50", 50, x.paid(3));
        Due.is("50", 50, x.paid(4));
    }

    private static void payOrder() {
        Due.part("32 pay, order");
        CardClub x = Scenes.club(2);
        x.ask(0);
        Due.rates(x, 0, "zone 0 1 60; zone 0 2 900");
        x.stamps(0, 10, 50);
        x.stamps(1, 30, 50);
        x.stamps(2, 20, 50);
        x.stamps(3, 59, 50);
        Due.is("least sum", 60, x.pay(0, 1));
        Due.is("fewest: two of 30", 2, x.paid(1));
        x.stamps(1, 40, 50);
        x.stamps(0, 30, 50);
        x.stamps(4, 30, 50);
        // Two of kind 0; a 40 and a 20; one of kind 0 and one of kind 4; two of kind 4.
        Due.is("60", 60, x.pay(0, 1));
        Due.is("most of kind 0", 2, x.paid(0));
        x.stamps(0, 30, 0);
        Due.is("60", 60, x.pay(0, 1));
        Due.is("most of kind 1", 1, x.paid(1));
        Due.is("with kind 2", 1, x.paid(2));
        for (int k = 0; k < 8; k++) {
            x.stamps(k, 500, 0);
        }
        x.stamps(5, 500, 3);
        x.stamps(6, 499, 1);
        Due.is("900", 999, x.pay(0, 2));
        Due.is("one 500", 1, x.paid(5));
        Due.is("one 499", 1, x.paid(6));
        Due.is("900", 1000, x.pay(0, 2));
    }

    private static void count() {
        Due.part("34 count");
        CardClub x = Scenes.club(3);
        x.leave(2);
        x.clock(7);
        x.ask(0);
        x.arrive(0, 7);
        x.back(0);
        x.list(1);
        x.list(0);
        Scenes.swap(x, 0, 1);
        x.stamps(2, 77, 8);
        Due.rates(x, 0, "zone 0 1 1");
        x.feed(0, 0, 0, 0, 0);
        int[] want = {7, 3, 2, 3, 2, 2, 1, 1, 20, 2, 5, 10, 3, 60, 2};
        for (int w = 0; w < want.length; w++) {
            Due.is("what " + w, want[w], x.count(w));
        }
        Due.is("stamps", 8, x.count(22));
        Due.is("value", 77, x.count(32));
        int[] none = {-1, 15, 19, 28, 29, 38, BIG, SMALL};
        for (int w : none) {
            Due.is("what " + w, NONE, x.count(w));
        }
    }

    private static void cardsFull() {
        Due.part("300 cards");
        CardClub x = Scenes.club(40);
        Due.rules(x, "under 20; more 1; slack 20");
        int sent = 0;
        for (int m = 0; m < 40 && sent < 299; m++) {
            for (int i = 0; i < 8 && sent < 299; i++) {
                int c = x.ask(m);
                Due.is("ask", sent, c);
                x.arrive(c, 0);
                sent++;
            }
        }
        x.offer(38, 0, 2);
        x.offer(39, 1, 1);
        Due.is("ring", 1, x.rings());
        Due.is("no room for two", NONE, x.close(0));
        Due.is("nothing happens", 0, x.offers(0, 3));
        x.list(38);
        x.list(39);
        Due.is("no room for as many as the list has", NONE, x.give());
        Due.is("nothing happens", 2, x.count(9));
        Due.is("the last", 299, x.ask(39));
        Due.is("301st", NONE, x.ask(39));
        x.leave(0);
        Due.is("301st of one who left", NONE, x.ask(0));
        Due.is("cards", 300, x.count(3));
    }
}
