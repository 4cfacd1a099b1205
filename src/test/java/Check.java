import java.io.IOException;
import java.nio.file.Files;
import java.nio.file.Path;

/** What the tests share: due answers, texts fed as a tape, and the document's sentences that they stand for. */
final class Check {
    private static final Path DOCUMENT = Path.of("../shared/DOC.md");
    private static int wrong = 0;
    private static int asked = 0;
    private static int sentences = 0;
    private static int askedAhead = 0;
    private static String sentence = "";
    private static String document = null;
    static final int INDEX = 1_000_001;
    static final int ELEMENT = 1_000_002;

    private Check() {
    }

    /** From here on the answers stand for this sentence, told in the document's own words. */
    static void says(String words) {
        closeSentence();
        sentence = words;
        sentences++;
        askedAhead = asked;
        if (!document().isEmpty() && !document().contains(plain(words))) {
            wrong++;
            System.out.println("the document doesn't say: " + words);
        }
    }

    private static void closeSentence() {
        if (!sentence.isEmpty() && asked == askedAhead) {
            wrong++;
            System.out.println("nothing is asked of: " + sentence);
        }
    }

    private static String document() {
        if (document == null) {
            try {
                document = Files.exists(DOCUMENT) ? plain(Files.readString(DOCUMENT)) : "";
            } catch (IOException e) {
                document = "";
            }
        }
        return document;
    }

    private static String plain(String words) {
        return words.replaceAll("\\s+", " ");
    }

    static void due(String call, long got, long want) {
        asked++;
        if (got != want) {
            wrong++;
            System.out.println((sentence.isEmpty() ? "" : "\"" + sentence + "\": ")
                + call + " answered " + got + ", due is " + want);
        }
    }

    static void due(String call, boolean got, boolean want) {
        due(call, got ? 1 : 0, want ? 1 : 0);
    }

    static void due(String call, String got, String want) {
        due(call + " (" + got + " beside " + want + ")", got.equals(want), true);
    }

    /** Feeds the letters and more blanks to a full twenty: how many bytes the tape has. */
    static int feed(PaidFaces x, String letters) {
        int have = 0;
        for (int at = 0; at < letters.length(); at += 20) {
            int[] five = new int[5];
            for (int k = 0; k < 20; k++) {
                int sign = at + k < letters.length() ? letters.charAt(at + k) & 255 : ' ';
                five[k / 4] = five[k / 4] << 8 | sign;
            }
            have = x.feed(five[0], five[1], five[2], five[3], five[4]);
        }
        return have;
    }

    static int tell(PaidFaces x, String letters) {
        feed(x, letters);
        return x.text(letters.length());
    }

    static PaidFaces told(String letters) {
        PaidFaces x = new PaidFaces();
        int lines = tell(x, letters);
        int want = 0;
        for (int k = 0; k < letters.length(); k++) {
            want += letters.charAt(k) == ';' ? 1 : 0;
        }
        due("text of " + letters, lines, want);
        return x;
    }

    /** A text with a fault: its kind and place. */
    static void fault(String letters, int kind, int place) {
        PaidFaces x = new PaidFaces();
        due("text of " + letters, tell(x, letters), PaidFaces.NONE);
        due("fault(0) of " + letters, x.fault(0), kind);
        due("fault(1) of " + letters, x.fault(1), place);
    }

    static void fine(String letters) {
        PaidFaces x = told(letters);
        due("fault(0) of " + letters, x.fault(0), 0);
        due("fault(1) of " + letters, x.fault(1), PaidFaces.NONE);
    }

    /** look, with its exceptions as numbers. */
    static long look(PaidFaces x, int sitter, int what) {
        try {
            return x.look(sitter, what);
        } catch (IndexOutOfBoundsException e) {
            return e.getClass() == IndexOutOfBoundsException.class ? INDEX : INDEX + 10;
        } catch (java.util.NoSuchElementException e) {
            return e.getClass() == java.util.NoSuchElementException.class ? ELEMENT : ELEMENT + 10;
        }
    }

    static int letters(String name) {
        int code = 0;
        for (int k = 0; k < 6; k++) {
            code = code * 32 + (k < name.length() ? name.charAt(k) - 'a' + 1 : 0);
        }
        return code;
    }

    static void end() {
        closeSentence();
        String of = sentences == 0 ? "" : " of " + sentences + " sentences";
        System.out.println(wrong == 0 ? "all " + asked + " answers" + of + " are as due" : wrong + " answers are not as due");
        if (wrong != 0) {
            System.exit(1);
        }
    }
}
