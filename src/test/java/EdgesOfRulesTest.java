/** A test for each sentence about the rules that names an edge (term II, promise 10). */
public final class EdgesOfRulesTest {
    private static final int NONE = CardClub.NONE;
    private static final String[] WORDS = {"under", "more", "slack", "lost", "strict"};
    private static final int[] LEAST = {1, 0, 0, 1, 0};
    private static final int[] MOST = {20, 99, 20, 400, 2};
    private static final int[] WITHOUT = {5, 10, 3, 60, 2};

    public static void main(String[] args) {
        hundredBytes();
        wordNumber();
        eachOnce();
        numbersOfWords();
        without();
        faultsAsAbove();
        toldTwice();
        blanksAlone();
        rules();
        Due.endOfTest();
    }

    private static void told(CardClub x, String text, int want) {
        Due.is("'" + text + "'", want, Due.rules(x, text));
    }

    private static void hold(CardClub x, int... numbers) {
        for (int w = 0; w < numbers.length; w++) {
            Due.is(WORDS[w], numbers[w], x.count(10 + w));
        }
    }

    private static void hundredBytes() {
        Due.sentence("The RULES: a text of at most 100 bytes");
        CardClub x = new CardClub();
        told(x, " ".repeat(93) + "under 7", 1);
        hold(x, 7, 10, 3, 60, 2);
        told(x, " ".repeat(94) + "under 8", NONE);
        told(x, "under 8" + " ".repeat(94), NONE);
        told(x, " ".repeat(101), NONE);
        hold(x, 7, 10, 3, 60, 2);
        told(x, "under 9" + " ".repeat(93), 1);
        hold(x, 9, 10, 3, 60, 2);
    }

    private static void wordNumber() {
        Due.sentence("WORD NUMBER { ; WORD NUMBER }");
        CardClub x = new CardClub();
        told(x, "under 7", 1);
        told(x, "under 7;more 8", 2);
        told(x, " under  7  ;  more  8  ", 2);
        told(x, "under 7;", Due.fault(8, 0));
        told(x, ";under 7", Due.fault(0, 0));
        told(x, ";", Due.fault(0, 0));
        told(x, "under 7;;more 8", Due.fault(8, 0));
        told(x, "under 7 more 8", Due.fault(8, 0));
        told(x, "under 7,more 8", Due.fault(7, 0));
        told(x, "under 7 7", Due.fault(8, 0));
        told(x, "7 under", Due.fault(0, 0));
        told(x, "under;", Due.fault(5, 0));
        told(x, "under more", Due.fault(6, 0));
    }

    private static void eachOnce() {
        Due.sentence("each once at most");
        CardClub x = new CardClub();
        told(x, "strict 1;lost 2;slack 3;more 4;under 5", 5);
        hold(x, 5, 4, 3, 2, 1);
        for (String word : WORDS) {
            told(x, word + " 1;" + word + " 1", Due.fault(word.length() + 3, 2));
        }
        told(x, "under 1;more 1;slack 1;lost 1;strict 1;more 1", Due.fault(39, 2));
        hold(x, 5, 4, 3, 2, 1);
    }

    private static void numbersOfWords() {
        Due.sentence("under n (1 to 20; 5 without), more n (0 to 99; 10), slack n (0 to 20; 3), lost n (1 to 400; 60),"
                + " strict n (0 to 2; 2)");
        CardClub x = new CardClub();
        hold(x, WITHOUT);
        for (int w = 0; w < WORDS.length; w++) {
            int place = WORDS[w].length() + 1;
            told(x, WORDS[w] + " " + MOST[w], 1);
            Due.is("the most", MOST[w], x.count(10 + w));
            told(x, WORDS[w] + " " + LEAST[w], 1);
            Due.is("the least", LEAST[w], x.count(10 + w));
            told(x, WORDS[w] + " " + (MOST[w] + 1), Due.fault(place, 1));
            told(x, WORDS[w] + " 999", Due.fault(place, 1));
            told(x, WORDS[w] + " " + (LEAST[w] - 1), Due.fault(place, LEAST[w] == 0 ? 0 : 1));
            told(x, WORDS[w] + " 0001", Due.fault(place, 1));
            Due.is("the least stays", LEAST[w], x.count(10 + w));
        }
    }

    private static void without() {
        Due.sentence("5 without");
        CardClub x = new CardClub();
        for (int w = 0; w < WORDS.length; w++) {
            told(x, "under 1;more 1;slack 1;lost 1;strict 1", 5);
            told(x, WORDS[w] + " 2", 1);
            for (int other = 0; other < WORDS.length; other++) {
                Due.is(WORDS[other], other == w ? 2 : WITHOUT[other], x.count(10 + other));
            }
        }
    }

    private static void faultsAsAbove() {
        Due.sentence("FAULTS 0 and 1 as above");
        CardClub x = new CardClub();
        told(x, "Under 7", Due.fault(0, 0));
        told(x, "unde 7", Due.fault(0, 0));
        told(x, "underr 7", Due.fault(0, 0));
        told(x, "under", Due.fault(5, 0));
        told(x, "under  ", Due.fault(7, 0));
        told(x, "under 7 ; ", Due.fault(10, 0));
        told(x, "under\t7", Due.fault(5, 0));
        told(x, "under 7\0", Due.fault(7, 0));
        told(x, "under 21;unde", Due.fault(6, 1));
        told(x, "unde 21", Due.fault(0, 0));
        told(x, "under 0021", Due.fault(6, 1));
        told(x, "zone 1", Due.fault(0, 0));
        told(x, " ".repeat(95) + "under", Due.fault(100, 0));
        hold(x, WITHOUT);
    }

    private static void toldTwice() {
        Due.sentence("2: a WORD told twice.");
        CardClub x = new CardClub();
        told(x, "more 1;more 2", Due.fault(7, 2));
        told(x, "more 1; more", Due.fault(8, 2));
        told(x, "more 1; more 100", Due.fault(8, 2));
        told(x, "more 100;more 1", Due.fault(5, 1));
        told(x, "more 1; mores 1", Due.fault(8, 0));
        told(x, "more 1;slack 1;more 1;slack 1", Due.fault(15, 2));
    }

    private static void blanksAlone() {
        Due.sentence("A text of blanks alone: all as without.");
        CardClub x = new CardClub();
        String[] blanks = {"", " ", " ".repeat(100)};
        for (String text : blanks) {
            told(x, "under 1;more 1;slack 1;lost 1;strict 1", 5);
            told(x, text, 0);
            hold(x, WITHOUT);
        }
    }

    private static void rules() {
        Due.sentence("The TAPE, which is empty then, is the RULES: how many WORDS; -2 - its FAULT (then those ahead stay);"
                + " NONE, and nothing happens: more than 100 bytes.");
        CardClub x = new CardClub();
        told(x, "under 7;strict 0", 2);
        Due.is("the tape is empty", 0, x.count(8));
        told(x, "under 8;strict 3", Due.fault(15, 1));
        Due.is("the tape is empty", 0, x.count(8));
        hold(x, 7, 10, 3, 60, 0);
        told(x, "under 8;more 3;", Due.fault(15, 0));
        hold(x, 7, 10, 3, 60, 0);
        told(x, " ".repeat(101), NONE);
        Due.is("nothing happens", 101, x.count(8));
        hold(x, 7, 10, 3, 60, 0);
    }
}
