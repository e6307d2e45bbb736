import java.io.IOException;
import java.nio.file.Files;
import java.nio.file.Path;

/** Compares answers with the ones that are due, and puts texts on the tape. */
final class Due {
    private static final Path DOCUMENT = Path.of("../shared/DOC.md");

    private static int wrong = 0;
    private static String part = "";
    private static String document = null;

    private Due() { }

    static void part(String name) {
        part = name;
    }

    /** Begins the test of one sentence, told in the document's own words: they must stand in it. */
    static void sentence(String words) {
        part = words;
        if (document == null) {
            document = readDocument();
        }
        if (!document.isEmpty() && !document.contains(words)) {
            wrong("these words don't stand in " + DOCUMENT);
        }
    }

    private static String readDocument() {
        try {
            return Files.readString(DOCUMENT).replaceAll("\\s+", " ");
        } catch (IOException e) {
            System.out.println(DOCUMENT + " can't be read: the sentences quoted are not looked up");
            return "";
        }
    }

    static void is(String call, long want, long got) {
        if (got != want) {
            wrong++;
            System.out.println(part + ": " + call + " answered " + got + ", due is " + want);
        }
    }

    static void yes(String call, boolean got) {
        is(call, 1, got ? 1 : 0);
    }

    static void no(String call, boolean got) {
        is(call, 0, got ? 1 : 0);
    }

    static void wrong(String what) {
        wrong++;
        System.out.println(part + ": " + what);
    }

    static void endOfTest() {
        System.out.println(wrong == 0 ? "all answers are as due" : wrong + " answers are not as due");
        if (wrong != 0) {
            System.exit(1);
        }
    }

    /** Makes the tape hold just this text (of at most 200 bytes). */
    static void tape(CardClub x, String text) {
        x.end(0);
        for (int at = 0; at < text.length(); at += 20) {
            x.feed(word(text, at), word(text, at + 4), word(text, at + 8), word(text, at + 12), word(text, at + 16));
        }
        x.end(text.length());
    }

    private static int word(String text, int at) {
        int number = 0;
        for (int i = at; i < at + 4; i++) {
            number = number << 8 | (i < text.length() ? text.charAt(i) & 255 : 0);
        }
        return number;
    }

    static int wish(CardClub x, int member, String text) {
        tape(x, text);
        return x.wish(member);
    }

    static int rules(CardClub x, String text) {
        tape(x, text);
        return x.rules();
    }

    static int rates(CardClub x, int day, String text) {
        tape(x, text);
        return x.rates(day);
    }

    /** The answer that is due for a fault of a kind at a place. */
    static int fault(int place, int kind) {
        return -2 - (1 + 8 * place + kind);
    }
}
