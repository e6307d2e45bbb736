/** A test for each sentence about the tape and the wishes that names an edge (term I, promises 6 to 9). */
public final class EdgesOfWishesTest {
    private static final int NONE = CardClub.NONE;
    private static final String TWELVE = "any or ".repeat(11) + "any";

    public static void main(String[] args) {
        feed();
        end();
        hundredBytes();
        either();
        one();
        landAtom();
        tongueAtom();
        sharedAtom();
        distanceAtoms();
        oldAtom();
        anyAtom();
        words();
        numbers();
        blanks();
        blanksAlone();
        firstFault();
        cannotStand();
        theEnd();
        numberNotAsTold();
        thirteenthAtom();
        deep();
        unhappy();
        wish();
        meets();
        Due.endOfTest();
    }

    private static void told(CardClub x, String text, int want) {
        Due.is("'" + text + "'", want, Due.wish(x, 0, text));
    }

    /** Member 0 wishes this: whether member 1 meets it. */
    private static void isMet(CardClub x, String text, int want) {
        Due.wish(x, 0, text);
        Due.is("'" + text + "' is met", want, x.meets(0, 1));
    }

    private static void feed() {
        Due.sentence("Twenty bytes come behind the TAPE, of each number the highest first: how many it has;"
                + " NONE, and none comes: it would have more than 200.");
        CardClub x = Scenes.club(2);
        // "land" " 15 " "or l" "and " "0   "
        Due.is("twenty", 20, x.feed(0x6c616e64, 0x20313520, 0x6f72206c, 0x616e6420, 0x30202020));
        Due.is("read from the highest byte on", 2, x.wish(0));
        Due.is("met by land 0", 1, x.meets(0, 1));
        Due.is("a byte over 127 is no letter", 20, x.feed(0xe16e7920, 0x20202020, 0x20202020, 0x20202020, 0x20202020));
        Due.is("at the first byte", Due.fault(0, 0), x.wish(0));
        for (int n = 20; n <= 200; n += 20) {
            Due.is("so many", n, x.feed(0x20202020, 0x20202020, 0x20202020, 0x20202020, 0x20202020));
        }
        Due.is("220", NONE, x.feed(0x61616161, 0, 0, 0, 0));
        Due.is("none comes", 200, x.count(8));
        x.end(181);
        Due.is("201", NONE, x.feed(0x61616161, 0, 0, 0, 0));
        Due.is("none comes", 181, x.count(8));
        x.end(180);
        Due.is("200", 200, x.feed(0x20202020, 0x20202020, 0x20202020, 0x20202020, 0x20202020));
        x.end(100);
        Due.is("blanks alone", 0, x.wish(0));
    }

    private static void end() {
        Due.sentence("The TAPE has its first n bytes alone: n; NONE, and nothing happens, if it has not so many, or n is below 0.");
        CardClub x = Scenes.club(2);
        Due.is("0 of none", 0, x.end(0));
        Due.is("1 of none", NONE, x.end(1));
        Due.is("-1 of none", NONE, x.end(-1));
        Due.tape(x, "any or land 9");
        Due.is("all", 13, x.end(13));
        Due.is("one more", NONE, x.end(14));
        Due.is("-1", NONE, x.end(-1));
        Due.is("the greatest number", NONE, x.end(Integer.MAX_VALUE));
        Due.is("the least number", NONE, x.end(Integer.MIN_VALUE));
        Due.is("nothing happens", 13, x.count(8));
        Due.is("in the middle of a word", 8, x.end(8));
        Due.is("'any or l'", Due.fault(7, 0), x.wish(0));
        Due.tape(x, "any or any");
        x.end(9);
        Due.is("'any or an'", Due.fault(7, 0), x.wish(0));
        Due.tape(x, "any or land 123");
        x.end(13);
        Due.is("'any or land 1'", 2, x.wish(0));
        Due.tape(x, "any or land 9");
        Due.is("the first three", 3, x.end(3));
        Due.is("not four any more", NONE, x.end(4));
        Due.is("'any'", 1, x.wish(0));
        Due.tape(x, "any");
        Due.is("none", 0, x.end(0));
        Due.is("blanks alone", 0, x.wish(0));
        Due.is("200 bytes", 200, feedAll(x));
        Due.is("201", NONE, x.end(201));
        Due.is("200", 200, x.end(200));
    }

    private static int feedAll(CardClub x) {
        int bytes = 0;
        for (int i = 0; i < 10; i++) {
            bytes = x.feed(0, 0, 0, 0, 0);
        }
        return bytes;
    }

    private static void hundredBytes() {
        Due.sentence("A WISH of a MEMBER: a text of at most 100 bytes about another one");
        CardClub x = Scenes.club(2);
        told(x, " ".repeat(93) + "not any", 1);
        Due.is("100 bytes are a wish", 0, x.meets(0, 1));
        told(x, " ".repeat(98) + "any", NONE);
        Due.is("101 bytes are none", 0, x.meets(0, 1));
        Due.is("nothing happens", 101, x.count(8));
        told(x, "any" + " ".repeat(97), 1);
        told(x, "any" + " ".repeat(98), NONE);
        told(x, " ".repeat(101), NONE);
        told(x, " ".repeat(200), NONE);
        Due.is("still that one", 1, x.meets(0, 1));
        told(x, " ".repeat(99) + "(", Due.fault(100, 0));
    }

    private static void either() {
        Due.sentence("EITHER: BOTH { or BOTH }; BOTH: ONE { and ONE }");
        CardClub x = Scenes.club(2);
        told(x, "any", 1);
        told(x, "any or any", 2);
        told(x, "any and any", 2);
        isMet(x, "land 1 or land 0", 1);
        isMet(x, "land 0 or land 1", 1);
        isMet(x, "land 1 or land 2", 0);
        isMet(x, "land 0 and land 1", 0);
        isMet(x, "land 1 and land 0", 0);
        isMet(x, "land 0 and any", 1);
        isMet(x, "any or any and land 1", 1);
        isMet(x, "land 1 and any or any", 1);
        isMet(x, "(any or any) and land 1", 0);
        isMet(x, "land 1 and (any or any)", 0);
        isMet(x, "land 1 or land 2 or land 3 or land 4 or land 5 or land 6 or land 0", 1);
        isMet(x, "any and any and any and any and any and any and any and land 1", 0);
    }

    private static void one() {
        Due.sentence("ONE: not ONE, ( EITHER ), or an ATOM");
        CardClub x = Scenes.club(2);
        isMet(x, "not any", 0);
        isMet(x, "not not any", 1);
        isMet(x, "not not not any", 0);
        isMet(x, "not land 1 and land 1", 0);
        isMet(x, "not any or any", 1);
        isMet(x, "not (any or any)", 0);
        isMet(x, "not (land 1 and any) and any", 1);
        isMet(x, "((any))", 1);
        isMet(x, "(not (not (land 0)))", 1);
        told(x, "not", Due.fault(3, 0));
        told(x, "()", Due.fault(1, 0));
        told(x, "not or any", Due.fault(4, 0));
        told(x, "not )", Due.fault(4, 0));
        told(x, "(any or)", Due.fault(7, 0));
    }

    private static void landAtom() {
        Due.sentence("land n (0 to 15: he is of it)");
        CardClub x = new CardClub();
        x.member(0, 0, NONE);
        x.member(15, 0, NONE);
        isMet(x, "land 15", 1);
        isMet(x, "land 14", 0);
        Due.wish(x, 1, "land 0");
        Due.is("land 0", 1, x.meets(1, 0));
        Due.wish(x, 1, "land 15");
        Due.is("not his own", 0, x.meets(1, 0));
        told(x, "land 16", Due.fault(5, 1));
        told(x, "land -1", Due.fault(5, 0));
    }

    private static void tongueAtom() {
        Due.sentence("tongue n (0 to 15: he has it)");
        CardClub x = new CardClub();
        x.member(0, 2, NONE);
        x.member(0, 1 | 1 << 15, NONE);
        isMet(x, "tongue 0", 1);
        isMet(x, "tongue 15", 1);
        isMet(x, "tongue 14", 0);
        isMet(x, "tongue 1", 0);
        told(x, "tongue 16", Due.fault(7, 1));
    }

    private static void sharedAtom() {
        Due.sentence("shared (they have a TONGUE in common)");
        CardClub x = new CardClub();
        x.member(0, 1 << 15 | 2, NONE);
        x.member(0, 1 << 15 | 4, NONE);
        x.member(0, 0x7ffd, NONE);
        x.member(0, 0, NONE);
        x.member(0, 0, NONE);
        isMet(x, "shared", 1);
        Due.is("none in common", 0, x.meets(0, 2));
        Due.is("he has none", 0, x.meets(0, 3));
        Due.wish(x, 3, "shared");
        Due.is("both have none", 0, x.meets(3, 4));
        told(x, "shared 1", Due.fault(7, 0));
    }

    private static void distanceAtoms() {
        Due.sentence("far n, near n (0 to 99: FAR from his LAND to theirs is n or more, n or less)");
        CardClub x = new CardClub();
        x.member(3, 0, NONE);
        x.member(4, 0, NONE);
        x.far(3, 4, 50);
        isMet(x, "far 49", 1);
        isMet(x, "far 50", 1);
        isMet(x, "far 51", 0);
        isMet(x, "near 49", 0);
        isMet(x, "near 50", 1);
        isMet(x, "near 51", 1);
        isMet(x, "far 0", 1);
        isMet(x, "near 99", 1);
        isMet(x, "far 99", 0);
        isMet(x, "near 0", 0);
        told(x, "far 100", Due.fault(4, 1));
        told(x, "near 100", Due.fault(5, 1));
    }

    private static void oldAtom() {
        Due.sentence("old n (0 to 999: he came n DAYS ago or more)");
        CardClub x = Scenes.club(1);
        x.clock(500);
        x.member(0, 0, NONE);
        isMet(x, "old 0", 1);
        isMet(x, "old 1", 0);
        x.clock(501);
        isMet(x, "old 1", 1);
        isMet(x, "old 2", 0);
        x.clock(1498);
        isMet(x, "old 999", 0);
        isMet(x, "old 998", 1);
        x.clock(1499);
        Due.is("the wish told a day ago, 998", 1, x.meets(0, 1));
        isMet(x, "old 999", 1);
        told(x, "old 1000", Due.fault(4, 1));
    }

    private static void anyAtom() {
        Due.sentence("any (always)");
        CardClub x = new CardClub();
        x.member(0, 0, 3);
        x.member(15, 0, 3);
        isMet(x, "any", 1);
        isMet(x, "not any", 0);
        told(x, "any 1", Due.fault(4, 0));
    }

    private static void words() {
        Due.sentence("WORDS are small letters");
        CardClub x = Scenes.club(2);
        told(x, "Any", Due.fault(0, 0));
        told(x, "aNy", Due.fault(0, 0));
        told(x, "anY", Due.fault(0, 0));
        told(x, "any`", Due.fault(3, 0));
        told(x, "any{", Due.fault(3, 0));
        told(x, "anya", Due.fault(0, 0));
        told(x, "anyz", Due.fault(0, 0));
        told(x, "an", Due.fault(0, 0));
        told(x, "a", Due.fault(0, 0));
        told(x, "notany", Due.fault(0, 0));
        told(x, "any orany", Due.fault(4, 0));
        told(x, "any andany", Due.fault(4, 0));
        told(x, "not(any)or(any)and any", 3);
    }

    private static void numbers() {
        Due.sentence("NUMBERS 1 to 3 digits (as far as digits go on)");
        CardClub x = new CardClub();
        x.member(0, 0, NONE);
        x.member(9, 0, NONE);
        told(x, "land 9", 1);
        told(x, "land 09", 1);
        told(x, "land 009", 1);
        Due.is("009 is 9", 1, x.meets(0, 1));
        told(x, "land 0009", Due.fault(5, 1));
        told(x, "land 00000000000000000009", Due.fault(5, 1));
        told(x, "land 99999999999999999999", Due.fault(5, 1));
        told(x, "land 4294967305", Due.fault(5, 1));
        told(x, "old 0", 1);
        told(x, "old 999", 1);
        told(x, "land 1/", Due.fault(6, 0));
        told(x, "land 1:", Due.fault(6, 0));
        told(x, "land /1", Due.fault(5, 0));
        told(x, "land :1", Due.fault(5, 0));
        told(x, "land 1 0", Due.fault(7, 0));
        told(x, "old 1 000", Due.fault(6, 0));
    }

    private static void blanks() {
        Due.sentence("blanks (32) between");
        CardClub x = Scenes.club(2);
        told(x, "    land    1    or   (   any   )   ", 2);
        told(x, "any\u001for any", Due.fault(3, 0));
        told(x, "any!or any", Due.fault(3, 0));
        told(x, "any\tor any", Due.fault(3, 0));
        told(x, "any\nor any", Due.fault(3, 0));
        told(x, "\0any", Due.fault(0, 0));
        told(x, "any\0", Due.fault(3, 0));
        told(x, "any\u00a0", Due.fault(3, 0));
        told(x, "an y", Due.fault(0, 0));
        told(x, "land 1 1", Due.fault(7, 0));
    }

    private static void blanksAlone() {
        Due.sentence("A text of blanks alone is no WISH (what was told is gone).");
        CardClub x = new CardClub();
        x.member(0, 0, NONE);
        x.member(7, 0, NONE);
        told(x, " ", 0);
        Due.is("none was told", 1, x.meets(0, 1));
        isMet(x, "not any", 0);
        told(x, " ", 0);
        Due.is("gone", 1, x.meets(0, 1));
        isMet(x, "not any", 0);
        told(x, "", 0);
        Due.is("gone by a text of no bytes", 1, x.meets(0, 1));
        isMet(x, "not any", 0);
        told(x, " ".repeat(100), 0);
        Due.is("gone by 100 blanks", 1, x.meets(0, 1));
        isMet(x, "not any", 0);
        Due.rules(x, "strict 0");
        Due.is("may not get", 0, x.may(1, 0));
        told(x, "  ", 0);
        Due.is("nobody is unhappy without a wish", 1, x.may(1, 0));
    }

    private static void firstFault() {
        Due.sentence("FAULTS, the first along it, 1 + 8 * its place and");
        CardClub x = Scenes.club(2);
        Due.tape(x, "#");
        Due.is("at place 0, kind 0: 1", -3, x.wish(0));
        Due.tape(x, "land 16 #");
        Due.is("at place 5, kind 1: 42", -44, x.wish(0));
        told(x, "# land 16", Due.fault(0, 0));
        told(x, "any and land 99 and )", Due.fault(13, 1));
        told(x, "any and ) land 99", Due.fault(8, 0));
        told(x, TWELVE + " or any #", Due.fault(84, 2));
        told(x, "(".repeat(11) + "#", Due.fault(10, 3));
        told(x, "(".repeat(10) + "#" + "(", Due.fault(10, 0));
        told(x, "land 99 or " + "any or ".repeat(12), Due.fault(5, 1));
    }

    private static void cannotStand() {
        Due.sentence("0 a byte or WORD that can't stand there");
        CardClub x = Scenes.club(2);
        told(x, "any any", Due.fault(4, 0));
        told(x, "any not any", Due.fault(4, 0));
        told(x, "any (any)", Due.fault(4, 0));
        told(x, "any 3", Due.fault(4, 0));
        told(x, "any 3333", Due.fault(4, 0));
        told(x, "3", Due.fault(0, 0));
        told(x, "or any", Due.fault(0, 0));
        told(x, "and any", Due.fault(0, 0));
        told(x, "any or or any", Due.fault(7, 0));
        told(x, "any or and any", Due.fault(7, 0));
        told(x, ")", Due.fault(0, 0));
        told(x, "any)", Due.fault(3, 0));
        told(x, "(any))", Due.fault(5, 0));
        told(x, "land any", Due.fault(5, 0));
        told(x, "land (3)", Due.fault(5, 0));
        told(x, "zone 1", Due.fault(0, 0));
        told(x, "any;any", Due.fault(3, 0));
        told(x, "any\u00ff", Due.fault(3, 0));
    }

    private static void theEnd() {
        Due.sentence("or the end (behind the last byte)");
        CardClub x = Scenes.club(2);
        told(x, "land", Due.fault(4, 0));
        told(x, "land   ", Due.fault(7, 0));
        told(x, "not", Due.fault(3, 0));
        told(x, "any or", Due.fault(6, 0));
        told(x, "any and ", Due.fault(8, 0));
        told(x, "(", Due.fault(1, 0));
        told(x, "(any", Due.fault(4, 0));
        told(x, "((any) ", Due.fault(7, 0));
        told(x, " ".repeat(96) + "land", Due.fault(100, 0));
    }

    private static void numberNotAsTold() {
        Due.sentence("1 a NUMBER not as told (of more digits, too)");
        CardClub x = Scenes.club(2);
        String[] atoms = {"land", "tongue", "far", "near", "old"};
        int[] most = {15, 15, 99, 99, 999};
        for (int i = 0; i < atoms.length; i++) {
            int place = atoms[i].length() + 1;
            told(x, atoms[i] + " 0", 1);
            told(x, atoms[i] + " " + most[i], 1);
            told(x, atoms[i] + " " + (most[i] + 1), Due.fault(place, 1));
            told(x, atoms[i] + " 0000", Due.fault(place, 1));
            told(x, atoms[i] + "   1000", Due.fault(place + 2, 1));
        }
    }

    private static void thirteenthAtom() {
        Due.sentence("2 the 13th ATOM (at its WORD)");
        CardClub x = Scenes.club(2);
        told(x, TWELVE, 12);
        told(x, TWELVE + " or any", Due.fault(84, 2));
        told(x, TWELVE + " or   any", Due.fault(86, 2));
        told(x, TWELVE + " or land 99", Due.fault(84, 2));
        told(x, TWELVE + " or land", Due.fault(84, 2));
        told(x, TWELVE + " or not any", Due.fault(88, 2));
        told(x, TWELVE + " or (any", Due.fault(85, 2));
        told(x, TWELVE + " or", Due.fault(83, 0));
        told(x, TWELVE + " or anny", Due.fault(84, 0));
        told(x, TWELVE + " any", Due.fault(81, 0));
        told(x, "(any)or".repeat(11) + "(any)", 12);
        told(x, "(any)or".repeat(12) + "(any)", Due.fault(85, 2));
        Due.is("a wish of twelve", 12, Due.wish(x, 0, "not any or ".repeat(2) + "any and ".repeat(9) + "land 1"));
        Due.is("is worked out to its last", 0, x.meets(0, 1));
    }

    private static void deep() {
        Due.sentence("3 a ( or not that stands within ten others (of these two kinds; at it)");
        CardClub x = Scenes.club(2);
        told(x, "(".repeat(10) + "any" + ")".repeat(10), 1);
        told(x, "(".repeat(11) + "any" + ")".repeat(11), Due.fault(10, 3));
        told(x, "not ".repeat(10) + "any", 1);
        Due.is("ten nots", 1, x.meets(0, 1));
        told(x, "not ".repeat(9) + "any", 1);
        Due.is("nine nots", 0, x.meets(0, 1));
        told(x, "not ".repeat(11) + "any", Due.fault(40, 3));
        told(x, "not ".repeat(10) + "(any)", Due.fault(40, 3));
        told(x, "(".repeat(10) + "not any" + ")".repeat(10), Due.fault(10, 3));
        told(x, "(not ".repeat(5) + "any" + ")".repeat(5), 1);
        told(x, "(not ".repeat(5) + " (any)", Due.fault(26, 3));
        told(x, "not(".repeat(5) + " not any", Due.fault(21, 3));
        told(x, "(".repeat(10) + "any) and (any) or not any" + ")".repeat(9), 3);
        told(x, "(".repeat(9) + "any" + ")".repeat(9) + "or" + "(".repeat(10) + "any" + ")".repeat(10), 2);
        told(x, "(".repeat(9) + "not any and not any" + ")".repeat(9), 2);
        told(x, "(".repeat(9) + "not not any", Due.fault(13, 3));
        told(x, "(".repeat(10) + ")", Due.fault(10, 0));
        told(x, "(".repeat(100), Due.fault(10, 3));
    }

    private static void unhappy() {
        Due.sentence("UNHAPPY for a and b: how many of both have a WISH that the other one doesn't meet (0 to 2), as of NOW.");
        CardClub x = Scenes.club(2);
        unhappyIs(x, 0);
        Due.wish(x, 0, "land 0");
        Due.wish(x, 1, "land 0");
        unhappyIs(x, 0);
        Due.wish(x, 1, "land 1");
        unhappyIs(x, 1);
        Due.wish(x, 0, "old 1");
        unhappyIs(x, 2);
        x.clock(1);
        unhappyIs(x, 1);
        Due.wish(x, 1, "");
        unhappyIs(x, 0);
    }

    /** With strict n those may get for whom UNHAPPY is at most n. */
    private static void unhappyIs(CardClub x, int want) {
        for (int strict = 0; strict <= 2; strict++) {
            Due.rules(x, "strict " + strict);
            Due.is(want + " unhappy, strict " + strict, strict >= want ? 1 : 0, x.may(0, 1));
            Due.is(want + " unhappy the other way, strict " + strict, strict >= want ? 1 : 0, x.may(1, 0));
        }
    }

    private static void wish() {
        Due.sentence("The TAPE, which is empty then, is the WISH of a MEMBER: how many ATOMS; -2 - its FAULT (then that one"
                + " stays); NONE, and nothing happens: no such MEMBER, or more than 100 bytes.");
        CardClub x = Scenes.club(2);
        told(x, "land 7", 1);
        Due.is("the tape is empty", 0, x.count(8));
        told(x, "any or", Due.fault(6, 0));
        Due.is("the tape is empty", 0, x.count(8));
        Due.is("that one stays", 0, x.meets(0, 1));
        told(x, TWELVE + " or any", Due.fault(84, 2));
        Due.is("that one stays", 0, x.meets(0, 1));
        Due.tape(x, "any");
        Due.is("no member 2", NONE, x.wish(2));
        Due.is("no member 3", NONE, x.wish(3));
        Due.is("no member 39", NONE, x.wish(39));
        Due.is("no member 40", NONE, x.wish(40));
        Due.is("no member -1", NONE, x.wish(-1));
        Due.is("nothing happens", 3, x.count(8));
        Due.is("member 1", 1, x.wish(1));
        told(x, " ".repeat(98) + "any", NONE);
        Due.is("nothing happens", 101, x.count(8));
        Due.is("that one stays", 0, x.meets(0, 1));
        x.leave(1);
        Due.is("one who left is a member", 1, Due.wish(x, 1, "land 7"));
        Due.is("and has a wish", 0, x.meets(1, 0));
    }

    private static void meets() {
        Due.sentence("1 if the WISH of a meets b (or a has none), 0 if not; NONE without these, or both one.");
        CardClub x = Scenes.club(2);
        Due.is("without a wish", 1, x.meets(0, 1));
        Due.wish(x, 0, "not any");
        Due.is("not met", 0, x.meets(0, 1));
        Due.is("the other way, without one", 1, x.meets(1, 0));
        Due.is("both one", NONE, x.meets(0, 0));
        Due.is("both one, without a wish", NONE, x.meets(1, 1));
        Due.is("no b", NONE, x.meets(0, 2));
        Due.is("no b", NONE, x.meets(0, 39));
        Due.is("no a", NONE, x.meets(39, 0));
        Due.is("no a", NONE, x.meets(2, 0));
        Due.is("-1", NONE, x.meets(0, -1));
        Due.is("both -1", NONE, x.meets(-1, -1));
    }
}
