/** A test for each sentence about rates, stamps and counts that names an edge (term V, promises 29 to 34). */
public final class EdgesOfStampsTest {
    private static final int NONE = CardClub.NONE;
    private static final String TWELVE = "zone 0 1 1;zone 0 2 1;zone 0 3 1;zone 0 4 1;zone 0 5 1;zone 0 6 1;zone 0 7 1;"
            + "zone 0 8 1;zone 0 9 1;zone 0 10 1;zone 0 11 1;zone 0 12 1";

    public static void main(String[] args) {
        twoHundredBytes();
        tenAtMost();
        clauses();
        clauseNumbers();
        gramsRise();
        twelveClauses();
        faultsAsAbove();
        thirteenthClause();
        latestDay();
        zones();
        leastGrams();
        drawer();
        notBelowThePrice();
        leastSum();
        fewestStamps();
        mostOfKinds();
        outOfTheDrawer();
        rates();
        price();
        stamps();
        pay();
        payAgain();
        paid();
        count();
        countOfOthers();
        countOfStamps();
        Due.endOfTest();
    }

    private static void told(CardClub x, String text, int want) {
        Due.is("'" + text + "'", want, Due.rates(x, 0, text));
    }

    private static void twoHundredBytes() {
        Due.sentence("RATES: texts of at most 200 bytes");
        CardClub x = Scenes.club(1);
        told(x, " ".repeat(189) + "zone 0 9 77", 1);
        Due.is("200 bytes", 77, x.price(0, 0, 9, 0));
        told(x, "zone 0 9 78" + " ".repeat(189), 1);
        Due.is("200 bytes", 78, x.price(0, 0, 9, 0));
        told(x, " ".repeat(189) + "zone 0 9;  ", Due.fault(197, 0));
        told(x, " ".repeat(196) + "zone", Due.fault(200, 0));
    }

    private static void tenAtMost() {
        Due.sentence("each from a DAY on, 10 at most");
        CardClub x = new CardClub();
        for (int r = 1; r <= 10; r++) {
            Due.is("the next", 1, Due.rates(x, r * 100, "zone 0 1 " + r));
        }
        Due.is("the eleventh", NONE, Due.rates(x, 5, "zone 0 1 11"));
        Due.is("nothing happens", 10, x.count(7));
        Due.is("nothing happens", 11, x.count(8));
        Due.is("none on day 99", -2, x.price(0, 0, 1, 99));
        for (int r = 1; r <= 10; r++) {
            Due.is("from its day on", r, x.price(0, 0, 1, r * 100));
            Due.is("to the next", r, x.price(0, 0, 1, r * 100 + 99));
        }
    }

    private static void clauses() {
        Due.sentence("CLAUSE { ; CLAUSE }: zone z g c");
        CardClub x = new CardClub();
        told(x, "zone 0 1 1", 1);
        told(x, "zone 0 1 1;zone 1 1 1", 2);
        told(x, "  zone  0  1  1  ;  zone  1  1  1  ", 2);
        told(x, "zone 0 1 1;", Due.fault(11, 0));
        told(x, "zone 0 1 1; ", Due.fault(12, 0));
        told(x, ";zone 0 1 1", Due.fault(0, 0));
        told(x, "zone 0 1 1;;zone 1 1 1", Due.fault(11, 0));
        told(x, "zone 0 1 1 zone 1 1 1", Due.fault(11, 0));
        told(x, "zone 0 1 1 1", Due.fault(11, 0));
        told(x, "zone 0 1;1", Due.fault(8, 0));
        told(x, "zone 0 1", Due.fault(8, 0));
        told(x, "zone 0", Due.fault(6, 0));
        told(x, "zone", Due.fault(4, 0));
        told(x, "0 1 1", Due.fault(0, 0));
        told(x, "", Due.fault(0, 0));
        told(x, "   ", Due.fault(3, 0));
    }

    private static void clauseNumbers() {
        Due.sentence("(z 0 to 3, g 1 to 500 grams, c 1 to 900 coins; of one zone the g rise; 12 CLAUSES at most)");
        CardClub x = new CardClub();
        told(x, "zone 0 1 1", 1);
        told(x, "zone 3 500 900", 1);
        told(x, "zone 4 1 1", Due.fault(5, 1));
        told(x, "zone 0 0 1", Due.fault(7, 1));
        told(x, "zone 0 501 1", Due.fault(7, 1));
        told(x, "zone 0 1 0", Due.fault(9, 1));
        told(x, "zone 0 1 901", Due.fault(9, 1));
        told(x, "zone 0000 1 1", Due.fault(5, 1));
        told(x, "zone 0 0001 1", Due.fault(7, 1));
        told(x, "zone 0 1 0001", Due.fault(9, 1));
        told(x, "zone 000 001 001", 1);
        told(x, "zone 4 0 0", Due.fault(5, 1));
        told(x, "zone -1 1 1", Due.fault(5, 0));
        Due.is("three were told", 3, x.count(7));
    }

    private static void gramsRise() {
        Due.sentence("(1 also: a g that doesn't rise)");
        CardClub x = new CardClub();
        told(x, "zone 0 5 1;zone 0 6 1", 2);
        told(x, "zone 0 5 1;zone 0 5 1", Due.fault(18, 1));
        told(x, "zone 0 5 1;zone 0 4 1", Due.fault(18, 1));
        told(x, "zone 0 5 1;zone 1 5 1;zone 2 5 1;zone 3 5 1", 4);
        told(x, "zone 0 5 1;zone 1 1 1;zone 0 6 1;zone 1 2 1", 4);
        told(x, "zone 0 5 1;zone 1 9 1;zone 0 5 1", Due.fault(29, 1));
        told(x, "zone 0 1 1;zone 0 3 1;zone 0 2 1", Due.fault(29, 1));
        told(x, "zone 0 5 1;zone 0   5", Due.fault(20, 1));
        told(x, "zone 0 500 1;zone 0 501 1", Due.fault(20, 1));
        told(x, "zone 0 5 1;zone 0", Due.fault(17, 0));
        told(x, "zone 0 4 1", 1);
    }

    private static void twelveClauses() {
        Due.sentence("12 CLAUSES at most");
        CardClub x = new CardClub();
        told(x, TWELVE, 12);
        for (int grams = 1; grams <= 12; grams++) {
            Due.is("grams " + grams, 1, x.price(0, 0, grams, 0));
        }
        Due.is("13 grams", -2, x.price(0, 0, 13, 0));
        told(x, TWELVE + ";zone 1 1 1", Due.fault(TWELVE.length() + 1, 2));
        Due.is("one was told", 1, x.count(7));
    }

    private static void faultsAsAbove() {
        Due.sentence("FAULTS 0 and 1 as above (1 also");
        CardClub x = new CardClub();
        told(x, "Zone 0 1 1", Due.fault(0, 0));
        told(x, "zon 0 1 1", Due.fault(0, 0));
        told(x, "zones 0 1 1", Due.fault(0, 0));
        told(x, "land 0 1 1", Due.fault(0, 0));
        told(x, "zone 0 1 1,", Due.fault(10, 0));
        told(x, "zone 0 1 1\0", Due.fault(10, 0));
        told(x, "zone 0 x 1", Due.fault(7, 0));
        told(x, "zone 9 x 1", Due.fault(5, 1));
        told(x, "zone 0 999 999", Due.fault(7, 1));
        told(x, "zone 0 1 1;zone 0 1 999", Due.fault(18, 1));
        Due.is("none was told", 0, x.count(7));
    }

    private static void thirteenthClause() {
        Due.sentence("2: the 13th CLAUSE (at its WORD)");
        CardClub x = new CardClub();
        int behind = TWELVE.length() + 1;
        told(x, TWELVE + ";  zone 1 1 1", Due.fault(behind + 2, 2));
        told(x, TWELVE + ";zone 9 9", Due.fault(behind, 2));
        told(x, TWELVE + ";zone", Due.fault(behind, 2));
        told(x, TWELVE + ";zon", Due.fault(behind, 0));
        told(x, TWELVE + ";", Due.fault(behind, 0));
        told(x, TWELVE + " zone 1 1 1", Due.fault(behind, 0));
        Due.is("none was told", 0, x.count(7));
    }

    private static void latestDay() {
        Due.sentence("On a DAY those with the latest DAY not behind it hold, of one DAY the last told.");
        CardClub x = new CardClub();
        Due.rates(x, 50, "zone 0 1 5");
        Due.rates(x, 40, "zone 0 1 4");
        Due.rates(x, 60, "zone 0 1 6;zone 1 1 7");
        Due.is("day 39", -2, x.price(0, 0, 1, 39));
        Due.is("day 40", 4, x.price(0, 0, 1, 40));
        Due.is("day 49", 4, x.price(0, 0, 1, 49));
        Due.is("day 50", 5, x.price(0, 0, 1, 50));
        Due.is("day 59", 5, x.price(0, 0, 1, 59));
        Due.is("day 60", 6, x.price(0, 0, 1, 60));
        Due.is("day 1999", 6, x.price(0, 0, 1, 1999));
        Due.rates(x, 50, "zone 0 1 8");
        Due.is("the last told of day 50", 8, x.price(0, 0, 1, 59));
        Due.is("day 60 holds from 60 on", 6, x.price(0, 0, 1, 60));
        Due.rates(x, 60, "zone 0 1 9");
        Due.is("the last told of day 60", 9, x.price(0, 0, 1, 60));
        Due.is("it has no zone 1: the one ahead doesn't hold", -2, x.price(0, 1, 1, 60));
        Due.rates(x, 50, "zone 0 501 8");
        Due.is("a fault changes nothing", 8, x.price(0, 0, 1, 50));
    }

    private static void zones() {
        Due.sentence("ZONE: 0 from a LAND to itself, 1 to one less than 20 FAR, 2 less than 50, else 3.");
        CardClub x = new CardClub();
        Due.rates(x, 0, "zone 0 1 10;zone 1 1 11;zone 2 1 12;zone 3 1 13");
        Due.is("itself", 10, x.price(7, 7, 1, 0));
        int[] far = {0, 1, 19, 20, 49, 50, 99};
        int[] coins = {11, 11, 11, 12, 12, 13, 13};
        for (int i = 0; i < far.length; i++) {
            x.far(7, 8, far[i]);
            Due.is(far[i] + " far", coins[i], x.price(7, 8, 1, 0));
            Due.is(far[i] + " far, the other way", coins[i], x.price(8, 7, 1, 0));
        }
        Due.is("10 until told", 11, x.price(0, 15, 1, 0));
        Due.is("itself still", 10, x.price(8, 8, 1, 0));
    }

    private static void leastGrams() {
        Due.sentence("the c of the CLAUSE of that zone with the least g that is not below; none without.");
        CardClub x = new CardClub();
        Due.rates(x, 0, "zone 1 500 40;zone 0 20 30;zone 0 50 20;zone 0 500 10");
        Due.is("1", 30, x.price(0, 0, 1, 0));
        Due.is("20", 30, x.price(0, 0, 20, 0));
        Due.is("21", 20, x.price(0, 0, 21, 0));
        Due.is("50", 20, x.price(0, 0, 50, 0));
        Due.is("51", 10, x.price(0, 0, 51, 0));
        Due.is("500", 10, x.price(0, 0, 500, 0));
        Due.is("zone 1", 40, x.price(0, 1, 1, 0));
        Due.rates(x, 0, "zone 0 499 30");
        Due.is("499", 30, x.price(0, 0, 499, 0));
        Due.is("500, none", -2, x.price(0, 0, 500, 0));
        Due.is("zone 1, none", -2, x.price(0, 1, 1, 0));
    }

    private static void drawer() {
        Due.sentence("THE DRAWER: STAMPS of 8 KINDS: a VALUE (1 to 500), so many (0 to 50).");
        CardClub x = new CardClub();
        Due.yes("kind 0, value 1, none", x.stamps(0, 1, 0));
        Due.yes("kind 7, value 500, 50", x.stamps(7, 500, 50));
        Due.no("kind 8", x.stamps(8, 1, 1));
        Due.no("kind -1", x.stamps(-1, 1, 1));
        Due.no("value 0", x.stamps(0, 0, 1));
        Due.no("value 501", x.stamps(7, 501, 1));
        Due.no("51", x.stamps(7, 1, 51));
        Due.no("-1", x.stamps(0, 2, -1));
        Due.is("value of 0", 1, x.count(30));
        Due.is("stamps of 0", 0, x.count(20));
        Due.is("value of 7", 500, x.count(37));
        Due.is("stamps of 7", 50, x.count(27));
        for (int k = 1; k < 7; k++) {
            Due.is("value of " + k, NONE, x.count(30 + k));
        }
    }

    /** A card from a land to itself, for which 1 gram costs so much. */
    private static CardClub costing(int coins) {
        CardClub x = Scenes.club(2);
        x.ask(0);
        Due.rates(x, 0, "zone 0 1 " + coins);
        return x;
    }

    /** What the card costs and of which kinds the stamps are, kind 0 first. */
    private static void pays(CardClub x, String why, int sum, int... kinds) {
        Due.is(why, sum, x.pay(0, 1));
        for (int k = 0; k < kinds.length; k++) {
            Due.is(why + ", of kind " + k, kinds[k], x.paid(k));
        }
    }

    private static void notBelowThePrice() {
        Due.sentence("PAID: STAMPS whose VALUES together are not below a PRICE");
        CardClub x = costing(100);
        x.stamps(0, 50, 2);
        pays(x, "just as much", 100, 2);
        x.stamps(0, 33, 3);
        pays(x, "one too few", -3);
        x.stamps(0, 50, 1);
        x.stamps(7, 49, 1);
        pays(x, "one too few of two kinds", -3);
        x.stamps(7, 50, 1);
        pays(x, "just as much of two kinds", 100, 1, 0, 0, 0, 0, 0, 0, 1);
        x.stamps(0, 500, 1);
        pays(x, "one that is much more", 500, 1);
        x = costing(1);
        pays(x, "an empty drawer", -3);
        x.stamps(3, 500, 50);
        pays(x, "one", 500, 0, 0, 0, 1);
        x = costing(900);
        x.stamps(0, 18, 49);
        pays(x, "882", -3);
        x.stamps(0, 18, 50);
        pays(x, "all fifty", 900, 50);
        x.stamps(6, 499, 1);
        x.stamps(5, 400, 1);
        pays(x, "899", -3);
        x.stamps(5, 500, 1);
        pays(x, "999", 999, 0, 0, 0, 0, 0, 1, 1, 0);
        x.stamps(5, 500, 2);
        pays(x, "1000", 1000, 0, 0, 0, 0, 0, 2, 0, 0);
        x.stamps(4, 2, 50);
        x.stamps(5, 500, 1);
        x.stamps(6, 300, 1);
        pays(x, "all that there is", 900, 0, 0, 0, 0, 50, 1, 1, 0);
        for (int k = 0; k < 8; k++) {
            x.stamps(k, 2, 50);
        }
        pays(x, "not enough of all kinds", -3);
        for (int k = 0; k < 8; k++) {
            x.stamps(k, 3, 50);
        }
        pays(x, "enough of six", 900, 50, 50, 50, 50, 50, 50, 0, 0);
    }

    private static void leastSum() {
        Due.sentence("the least sum; then the fewest STAMPS");
        CardClub x = costing(100);
        x.stamps(0, 101, 50);
        x.stamps(1, 10, 50);
        pays(x, "ten of 100, not one of 101", 100, 0, 10);
        x.stamps(1, 11, 50);
        pays(x, "one of 101, not ten of 110", 101, 1, 0);
        x.stamps(2, 7, 1);
        // 7 and nine of 11 are 106: one of 101 is less.
        pays(x, "one of 101 still", 101, 1, 0, 0);
        x.stamps(2, 1, 1);
        pays(x, "1 and nine of 11", 100, 0, 9, 1);
    }

    private static void fewestStamps() {
        Due.sentence("then the fewest STAMPS; then the most of KIND 0");
        CardClub x = costing(60);
        x.stamps(0, 20, 50);
        x.stamps(1, 30, 50);
        x.stamps(2, 1, 50);
        pays(x, "two of 30, not three of 20", 60, 0, 2, 0);
        x.stamps(7, 60, 1);
        pays(x, "one of 60", 60, 0, 0, 0, 0, 0, 0, 0, 1);
        pays(x, "two of 30, the one of 60 is gone", 60, 0, 2, 0, 0, 0, 0, 0, 0);
    }

    private static void mostOfKinds() {
        Due.sentence("then the most of KIND 0, then of KIND 1, and so on.");
        CardClub x = costing(60);
        for (int k = 0; k < 8; k++) {
            x.stamps(k, 30, 1);
        }
        pays(x, "0 and 1", 60, 1, 1, 0, 0, 0, 0, 0, 0);
        pays(x, "2 and 3", 60, 0, 0, 1, 1, 0, 0, 0, 0);
        x.stamps(2, 30, 1);
        pays(x, "2 and 4", 60, 0, 0, 1, 0, 1, 0, 0, 0);
        x.stamps(7, 30, 2);
        pays(x, "5 and 6", 60, 0, 0, 0, 0, 0, 1, 1, 0);
        pays(x, "7", 60, 0, 0, 0, 0, 0, 0, 0, 2);
        x = costing(60);
        x.stamps(0, 20, 1);
        x.stamps(1, 30, 2);
        x.stamps(2, 40, 1);
        pays(x, "20 and 40, not two of 30", 60, 1, 0, 1);
        pays(x, "two of 30", 60, 0, 2, 0);
        x.stamps(1, 30, 50);
        x.stamps(2, 30, 50);
        x.stamps(0, 30, 1);
        pays(x, "one of 0, then of 1", 60, 1, 1, 0);
        x = costing(900);
        x.stamps(0, 9, 50);
        x.stamps(1, 9, 50);
        x.stamps(2, 9, 50);
        pays(x, "fifty of 0 and fifty of 1", 900, 50, 50, 0);
    }

    private static void outOfTheDrawer() {
        Due.sentence("They go out of THE DRAWER.");
        CardClub x = costing(60);
        x.stamps(0, 30, 3);
        x.stamps(1, 1, 50);
        Due.is("paid", 60, x.pay(0, 1));
        Due.is("one is left", 1, x.count(20));
        Due.is("none of kind 1 went", 50, x.count(21));
        Due.is("values stay", 30, x.count(30));
        Due.is("paid", 60, x.pay(0, 1));
        Due.is("none is left", 0, x.count(20));
        Due.is("thirty went", 20, x.count(21));
        Due.is("the value stays", 30, x.count(30));
        Due.is("too few", -3, x.pay(0, 1));
        Due.is("nothing went", 20, x.count(21));
    }

    private static void rates() {
        Due.sentence("The TAPE, which is empty then, are RATES from a DAY on: how many CLAUSES; -2 - its FAULT; NONE,"
                + " and nothing happens: 10, or no such DAY.");
        CardClub x = new CardClub();
        told(x, "zone 0 1 1;zone 1 1 1", 2);
        Due.is("the tape is empty", 0, x.count(8));
        told(x, "zone 0 1 1;zone", Due.fault(15, 0));
        Due.is("the tape is empty", 0, x.count(8));
        Due.is("those ahead stay", 1, x.count(7));
        told(x, "zone 0 1 1;zone 2 1 1;zone 3 1 1;zone", Due.fault(37, 0));
        told(x, "zone 0 1 2", 1);
        x.far(0, 1, 30);
        Due.is("nothing stays of those with a fault", -2, x.price(0, 1, 1, 0));
        Due.tape(x, "zone 0 1 3");
        Due.is("day -1", NONE, x.rates(-1));
        Due.is("day 2000", NONE, x.rates(2000));
        Due.is("the greatest number", NONE, x.rates(Integer.MAX_VALUE));
        Due.is("nothing happens", 10, x.count(8));
        Due.is("nothing happens", 2, x.count(7));
        Due.is("day 1999", 1, x.rates(1999));
        x.clock(500);
        told(x, "zone 0 1 4", 1);
        Due.is("from a day that is over", 4, x.price(0, 0, 1, 0));
        for (int r = 4; r < 10; r++) {
            told(x, "zone 0 1 5", 1);
        }
        told(x, "zone 0 1 6", NONE);
        Due.is("nothing happens", 10, x.count(8));
        told(x, "zone", NONE);
        Due.is("10, though it has a fault", 4, x.count(8));
        Due.is("nothing happens", 5, x.price(0, 0, 1, 0));
    }

    private static void price() {
        Due.sentence("PRICE of grams from a LAND to a LAND on a DAY; -2: none; NONE without these (grams 1 to 500).");
        CardClub x = new CardClub();
        Due.is("no rates", -2, x.price(0, 0, 1, 0));
        Due.rates(x, 0, "zone 0 500 9");
        Due.is("grams 1", 9, x.price(0, 0, 1, 0));
        Due.is("grams 500", 9, x.price(0, 0, 500, 0));
        Due.is("grams 0", NONE, x.price(0, 0, 0, 0));
        Due.is("grams 501", NONE, x.price(0, 0, 501, 0));
        Due.is("grams -1", NONE, x.price(0, 0, -1, 0));
        Due.is("land 16", NONE, x.price(16, 16, 1, 0));
        Due.is("land -1", NONE, x.price(-1, -1, 1, 0));
        Due.is("day -1", NONE, x.price(0, 0, 1, -1));
        Due.is("day 2000", NONE, x.price(0, 0, 1, 2000));
        Due.is("another land", -2, x.price(0, 15, 1, 0));
        Due.is("another land, grams 501", NONE, x.price(0, 15, 501, 0));
        Due.is("day 1999", 9, x.price(15, 15, 500, 1999));
    }

    private static void stamps() {
        Due.sentence("STAMPS of a KIND are so many of a VALUE: true; false, and nothing happens, for others.");
        CardClub x = new CardClub();
        Due.yes("told", x.stamps(4, 7, 8));
        Due.no("value 501", x.stamps(4, 501, 9));
        Due.no("51", x.stamps(4, 6, 51));
        Due.no("kind 8", x.stamps(8, 6, 5));
        Due.no("extremes", x.stamps(Integer.MIN_VALUE, Integer.MAX_VALUE, 1));
        Due.is("nothing happens", 8, x.count(24));
        Due.is("nothing happens", 7, x.count(34));
        Due.yes("told anew", x.stamps(4, 9, 3));
        Due.is("so many, not more", 3, x.count(24));
        Due.is("of the new value", 9, x.count(34));
        Due.yes("none of them", x.stamps(4, 500, 0));
        Due.is("none", 0, x.count(24));
        Due.is("of the new value", 500, x.count(34));
    }

    private static void pay() {
        Due.sentence("A CARD of so many grams is PAID by the PRICE of NOW (from its SENDER's LAND): what the STAMPS come to;"
                + " -2: no PRICE; -3: THE DRAWER hasn't as much; NONE, and nothing happens, without these.");
        CardClub x = new CardClub();
        x.member(0, 0, NONE);
        x.member(1, 0, NONE);
        x.ask(0);
        x.stamps(0, 1, 50);
        Due.is("no rates", -2, x.pay(0, 1));
        Due.rates(x, 5, "zone 1 20 30");
        Due.is("not from now on", -2, x.pay(0, 1));
        x.clock(4);
        Due.is("a day ahead", -2, x.pay(0, 1));
        x.clock(5);
        Due.is("card 1", NONE, x.pay(1, 1));
        Due.is("card 2", NONE, x.pay(2, 1));
        Due.is("card 299", NONE, x.pay(299, 1));
        Due.is("card 300", NONE, x.pay(300, 1));
        Due.is("card -1", NONE, x.pay(-1, 1));
        Due.is("grams 0", NONE, x.pay(0, 0));
        Due.is("grams 501", NONE, x.pay(0, 501));
        Due.is("grams 21", -2, x.pay(0, 21));
        Due.is("nothing happens", 50, x.count(20));
        Due.is("grams 20", 30, x.pay(0, 20));
        Due.is("20 are left", -3, x.pay(0, 20));
        Due.is("nothing happens", 20, x.count(20));
        Due.rates(x, 5, "zone 0 500 1");
        Due.is("from a land to another one", -2, x.pay(0, 1));
        x.far(0, 1, 0);
        Due.is("0 far it is another one still", -2, x.pay(0, 1));
    }

    private static void payAgain() {
        Due.sentence("(A CARD may be PAID again.)");
        CardClub x = costing(3);
        x.stamps(0, 1, 9);
        Due.is("once", 3, x.pay(0, 1));
        Due.is("again", 3, x.pay(0, 1));
        x.arrive(0, 0);
        Due.is("arrived", 3, x.pay(0, 1));
        Due.is("the drawer is empty", -3, x.pay(0, 1));
    }

    private static void paid() {
        Due.sentence("STAMPS of a KIND that went by the latest pay() that paid; NONE without it.");
        CardClub x = costing(3);
        for (int k = -1; k <= 8; k++) {
            Due.is("none paid yet, kind " + k, NONE, x.paid(k));
        }
        Due.is("too few", -3, x.pay(0, 1));
        Due.is("none paid yet", NONE, x.paid(0));
        x.stamps(7, 1, 5);
        Due.is("paid", 3, x.pay(0, 1));
        Due.is("kind 7", 3, x.paid(7));
        Due.is("kind 0", 0, x.paid(0));
        Due.is("kind 8", NONE, x.paid(8));
        Due.is("kind -1", NONE, x.paid(-1));
        Due.is("the greatest number", NONE, x.paid(Integer.MAX_VALUE));
        Due.is("too few", -3, x.pay(0, 1));
        Due.is("no price", -2, x.pay(0, 2));
        Due.is("no card", NONE, x.pay(1, 1));
        x.stamps(7, 9, 9);
        Due.is("the latest that paid", 3, x.paid(7));
        x.stamps(0, 3, 1);
        Due.is("paid", 3, x.pay(0, 1));
        Due.is("kind 7", 0, x.paid(7));
        Due.is("kind 0", 1, x.paid(0));
    }

    private static void count() {
        Due.sentence("What 0: NOW, 1: MEMBERS, 2: those there, 3: CARDS, 4: tellings and takings back, 5: OFFERS,"
                + " 6: RINGS CLOSED, 7: RATES, 8: bytes of the TAPE, 9: MEMBERS on the list; 10 to 14: under, more, slack,"
                + " lost, strict");
        CardClub x = new CardClub();
        int[] first = {0, 0, 0, 0, 0, 0, 0, 0, 0, 0, 5, 10, 3, 60, 2};
        counts(x, "a new object", first);
        for (int m = 0; m < 40; m++) {
            x.member(0, 0, NONE);
        }
        Due.rules(x, "under 20;more 99;slack 20;lost 400;strict 0");
        x.clock(1999);
        for (int m = 1; m < 9; m++) {
            x.list(m);
        }
        for (int r = 0; r < 10; r++) {
            told(x, "zone 0 1 1", 1);
        }
        for (int ring = 0; ring < 10; ring++) {
            Scenes.swap(x, 0, 1);
        }
        x.arrive(0, 1999);
        x.back(0);
        x.leave(39);
        Due.tape(x, " ".repeat(200));
        int[] last = {1999, 40, 39, 20, 2, 20, 10, 10, 200, 8, 20, 99, 20, 400, 0};
        counts(x, "as much as there can be", last);
    }

    private static void counts(CardClub x, String why, int[] want) {
        for (int what = 0; what < want.length; what++) {
            Due.is(why + ", what " + what, want[what], x.count(what));
        }
    }

    private static void countOfOthers() {
        Due.sentence("NONE for others.");
        CardClub x = new CardClub();
        int[] none = {Integer.MIN_VALUE, -20, -1, 15, 16, 19, 28, 29, 38, 39, 40, 1000, Integer.MAX_VALUE};
        for (int what : none) {
            Due.is("what " + what, NONE, x.count(what));
        }
        for (int what = 0; what < 38; what++) {
            if (what < 15 || what >= 20 && what < 28) {
                Due.is("what " + what + " is at least 0", 1, x.count(what) >= 0 ? 1 : 0);
            }
        }
    }

    private static void countOfStamps() {
        Due.sentence("20 to 27: STAMPS of a KIND, 30 to 37: their VALUES (NONE: not told)");
        CardClub x = new CardClub();
        for (int k = 0; k < 8; k++) {
            Due.is("none of " + k, 0, x.count(20 + k));
            Due.is("value of " + k + ", not told", NONE, x.count(30 + k));
            x.stamps(k, 100 + k, 10 + k);
            Due.is("stamps of " + k, 10 + k, x.count(20 + k));
            Due.is("value of " + k, 100 + k, x.count(30 + k));
        }
        Due.is("stamps of the first stay", 10, x.count(20));
    }
}
