/** What the tests share: due answers, and texts fed as a tape. */
final class Check {
    private static int wrong = 0;
    private static int asked = 0;
    static final int INDEX = 1_000_001;
    static final int ELEMENT = 1_000_002;

    private Check() {
    }

    static void due(String call, long got, long want) {
        asked++;
        if (got != want) {
            wrong++;
            System.out.println(call + " answered " + got + ", due is " + want);
        }
    }

    static void due(String call, boolean got, boolean want) {
        due(call, got ? 1 : 0, want ? 1 : 0);
    }

    /** Feeds the letters and more blanks to a full twenty: how many bytes the tape has. */
    static int feed(PaidFaces x, String letters) {
        int have = 0;
        for (int at = 0; at < letters.length(); at += 20) {
            int[] five = new int[5];
            for (int k = 0; k < 20; k++) {
                int sign = at + k < letters.length() ? letters.charAt(at + k) & 255 : ' ';
                five[k / 4] = five[k / 4] << 8 | sign;
            }
            have = x.feed(five[0], five[1], five[2], five[3], five[4]);
        }
        return have;
    }

    static int tell(PaidFaces x, String letters) {
        feed(x, letters);
        return x.text(letters.length());
    }

    static PaidFaces told(String letters) {
        PaidFaces x = new PaidFaces();
        int lines = tell(x, letters);
        int want = 0;
        for (int k = 0; k < letters.length(); k++) {
            want += letters.charAt(k) == ';' ? 1 : 0;
        }
        due("text of " + letters, lines, want);
        return x;
    }

    /** A text with a fault: its kind and place. */
    static void fault(String letters, int kind, int place) {
        PaidFaces x = new PaidFaces();
        due("text of " + letters, tell(x, letters), PaidFaces.NONE);
        due("fault(0) of " + letters, x.fault(0), kind);
        due("fault(1) of " + letters, x.fault(1), place);
    }

    static void fine(String letters) {
        PaidFaces x = told(letters);
        due("fault(0) of " + letters, x.fault(0), 0);
        due("fault(1) of " + letters, x.fault(1), PaidFaces.NONE);
    }

    /** look, with its exceptions as numbers. */
    static long look(PaidFaces x, int sitter, int what) {
        try {
            return x.look(sitter, what);
        } catch (IndexOutOfBoundsException e) {
            return e.getClass() == IndexOutOfBoundsException.class ? INDEX : INDEX + 10;
        } catch (java.util.NoSuchElementException e) {
            return e.getClass() == java.util.NoSuchElementException.class ? ELEMENT : ELEMENT + 10;
        }
    }

    static int letters(String name) {
        int code = 0;
        for (int k = 0; k < 6; k++) {
            code = code * 32 + (k < name.length() ? name.charAt(k) - 'a' + 1 : 0);
        }
        return code;
    }

    static void end() {
        System.out.println(wrong == 0 ? "all " + asked + " answers are as due" : wrong + " answers are not as due");
        if (wrong != 0) {
            System.exit(1);
        }
    }
}
