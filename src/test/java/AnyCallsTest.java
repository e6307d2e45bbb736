import java.util.Random;

/** Calls with any numbers in any state: none throws or fails to end, and the same calls answer the same. */
public final class AnyCallsTest {
    private static final int[] EDGES = {Integer.MIN_VALUE, Integer.MIN_VALUE + 1, -1000, -2, -1, 0, 1, 2, 7, 8, 11, 12, 15, 16,
        19, 20, 31, 32, 39, 40, 99, 100, 199, 200, 299, 300, 500, 501, 599, 600, 1999, 2000, 65535, 65536,
        Integer.MAX_VALUE - 1, Integer.MAX_VALUE};
    private static final String[] TEXTS = {"not not (any or land 3) and far 10", "((((((((((any))))))))))", "under 20;more 1;slack 20",
        "lost 1", "zone 0 1 1;zone 1 500 900;zone 3 9 9", "zone 1 20 300", "", " ", "not(", "shared or old 5 and near 9"};

    public static void main(String[] args) {
        for (int seed = 0; seed < 400; seed++) {
            Due.part("seed " + seed);
            int bound = seed % 4 == 0 ? 5 : seed % 4 == 1 ? 45 : seed % 4 == 2 ? 330 : 2100;
            long[] first = answers(seed, bound);
            long[] again = answers(seed, bound);
            for (int i = 0; i < first.length; i++) {
                Due.is("call " + i + ", a second time", first[i], again[i]);
            }
        }
        Due.endOfTest();
    }

    private static long[] answers(int seed, int bound) {
        Random dice = new Random(seed);
        CardClub x = new CardClub();
        long[] answers = new long[2000];
        int i = 0;
        try {
            for (int m = 0; m < 12; m++) {
                x.member(m, m, m % 5 - 1);
                x.offer(m, m, -1);
            }
            for (; i < answers.length; i++) {
                answers[i] = call(x, dice, bound);
            }
        } catch (RuntimeException | StackOverflowError e) {
            Due.wrong("call " + i + " threw " + e);
        }
        return answers;
    }

    private static int number(Random dice, int bound) {
        int luck = dice.nextInt(20);
        return luck == 0 ? dice.nextInt() : luck < 3 ? EDGES[dice.nextInt(EDGES.length)] : dice.nextInt(bound);
    }

    private static long call(CardClub x, Random dice, int bound) {
        int a = number(dice, bound);
        int b = number(dice, bound);
        int c = number(dice, bound);
        switch (dice.nextInt(38)) {
            case 0: return x.clock(Math.min(a, x.count(0) + 9)) ? 1 : 0;
            case 1: return x.far(a, b, c);
            case 2: return x.member(a, b, c);
            case 3: return dice.nextInt(8) == 0 ? x.leave(a) : 0;
            case 4: return x.feed(a, b, c, dice.nextInt(), dice.nextInt());
            case 5: return x.end(a);
            case 6: return x.wish(a);
            case 7: return x.meets(a, b);
            case 8: return x.rules();
            case 9: return x.ask(a);
            case 10: return x.may(a, b);
            case 11: return x.list(a);
            case 12: return x.give();
            case 13: return x.arrive(a, b) ? 1 : 0;
            case 14: return x.back(a) ? 1 : 0;
            case 15: return x.card(a, dice.nextInt(9) - 1);
            case 16: return x.state(a, b, c);
            case 17: return x.about(a, dice.nextInt(13) - 1);
            case 18: return x.album(a);
            case 19: return x.span(a, b, dice.nextInt(5) - 1);
            case 20: return x.offer(a, b, c);
            case 21: return x.away(a) ? 1 : 0;
            case 22: return x.rings();
            case 23: return x.ring(a, b);
            case 24: return x.close(a);
            case 25: return x.drop(a, b);
            case 26: return x.offers(a, dice.nextInt(7) - 1);
            case 27: return x.rates(a);
            case 28: return x.price(a, b, c, number(dice, 2000));
            case 29: return x.stamps(a, b, c) ? 1 : 0;
            case 30: return x.pay(a, b);
            case 31: return x.paid(a);
            case 32: return x.count(a);
            case 33: return Due.wish(x, a, TEXTS[dice.nextInt(TEXTS.length)]);
            case 34: return Due.rules(x, TEXTS[dice.nextInt(TEXTS.length)]);
            case 35: return Due.rates(x, a, TEXTS[dice.nextInt(TEXTS.length)]);
            case 36: return x.ask(dice.nextInt(12));
            default: return x.arrive(dice.nextInt(20), x.count(0)) ? 1 : 0;
        }
    }
}
