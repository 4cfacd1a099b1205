/** What was SEEN, STRUCK and FORGED, and promises 20 to 24, sentence by sentence, at the edges. */
public final class SeenEdgesTest {
    private static final String TEXT = "feature f 9 1;feature g 9 1;sitter a 0 0;sitter b 0 0;sitter c 0 0;sitter d 0 0;"
        + "wants a f 99;wants b g 99;wants c f 99;wants c g 99;";
    /** SITTERS by their LOOK: a has f, b has g, c both, d none. */
    private static final int ALL = 15;
    private static final int WITH_F = 5;
    private static final int WITH_G = 6;
    private static final int BOTH = 4;
    private static final int NEITHER = 8;

    private SeenEdgesTest() {
    }

    public static void main(String[] args) {
        seenAtMost();
        hasOrNot();
        firstN();
        struckStrike();
        whoHasAll();
        forgedOnes();
        seeNumber();
        seeNone();
        strikeNumber();
        strikeNone();
        knownFromNowOn();
        knownNoSuch();
        whoBits();
        forgedBits();
        Check.end();
    }

    private static PaidFaces painted() {
        PaidFaces x = Check.told(TEXT);
        for (int p = 0; p < 4; p++) {
            x.forge(p);
        }
        return x;
    }

    private static void seenAtMost() {
        Check.says("SEEN, at most 24, numbered from 0 on:");
        PaidFaces x = painted();
        for (int k = 0; k < 24; k++) {
            Check.due("see", x.see(k % 2, true), k);
        }
        Check.due("a 25th", x.see(0, true), -1);
        Check.due("a STRIKE as the 25th", x.strike(0), -1);
        Check.due("24", x.count(6), 24);
        Check.due("who", x.who(), BOTH);
        x = painted();
        x.see(0, true);
        for (int k = 1; k < 24; k++) {
            Check.due("strike", x.strike(k - 1), k);
        }
        Check.due("a 25th", x.strike(23), -1);
        Check.due("see as the 25th", x.see(0, true), -1);
        // The last one, number 23, strikes; the first is struck by an odd number of them.
        Check.due("who", x.who(), ALL);
        Check.due("known", x.known(23), true);
        Check.due("who", x.who(), WITH_F);
        // A number of 23 can be struck only when there is room.
        Check.due("a refused one changes nothing", x.strike(0), -1);
        Check.due("who", x.who(), WITH_F);
    }

    private static void hasOrNot() {
        Check.says("a face has a FEATURE, or not. A STRIKE of one.");
        PaidFaces x = painted();
        x.see(0, true);
        Check.due("f", x.who(), WITH_F);
        x.strike(0);
        Check.due("struck", x.who(), ALL);
        x.see(0, false);
        Check.due("no f", x.who(), ALL & ~WITH_F);
        x.see(1, false);
        Check.due("neither", x.who(), NEITHER);
        x.strike(2);
        Check.due("no g alone", x.who(), ALL & ~WITH_G);
        x.see(1, true);
        Check.due("g and no g", x.who(), 0);
        x.strike(3);
        Check.due("g alone", x.who(), WITH_G);
    }

    private static void firstN() {
        Check.says("KNOWN by n (all at first): the first n that aren't STRUCK by one of these");
        PaidFaces x = painted();
        x.see(0, true);
        x.see(1, true);
        Check.due("all at first", x.who(), BOTH);
        x.strike(0);
        int[] who = {ALL, WITH_F, BOTH, WITH_G};
        for (int n = 3; n >= 0; n--) {
            Check.due("known(" + n + ")", x.known(n), true);
            Check.due("by the first " + n, x.who(), who[n]);
        }
        // A STRIKE that isn't among them doesn't count; one that is does, though what it strikes comes first.
        x.known(2);
        x.strike(1);
        Check.due("by 2", x.who(), BOTH);
        x.known(4);
        Check.due("by 4", x.who(), ALL);
    }

    private static void struckStrike() {
        Check.says("(a STRIKE may be STRUCK: then it doesn't count; asked from the last one on).");
        PaidFaces x = painted();
        x.see(0, true);
        for (int k = 1; k < 10; k++) {
            Check.due("strike", x.strike(k - 1), k);
            Check.due("a chain of " + k, x.who(), k % 2 == 1 ? ALL : WITH_F);
        }
        for (int n = 1; n <= 10; n++) {
            x.known(n);
            Check.due("the chain by " + n, x.who(), n % 2 == 0 ? ALL : WITH_F);
        }
        // Struck by two of which one is struck; by two that are both struck.
        x = painted();
        x.see(1, true);
        x.strike(0);
        x.strike(0);
        x.strike(1);
        Check.due("one of two", x.who(), ALL);
        x.strike(2);
        Check.due("both", x.who(), WITH_G);
        x.strike(4);
        Check.due("one again", x.who(), ALL);
        // Struck twice is struck, not back again.
        x = painted();
        x.see(1, true);
        x.strike(0);
        x.strike(0);
        Check.due("twice", x.who(), ALL);
    }

    private static void whoHasAll() {
        Check.says("WHO: SITTERS (dead ones, too) whose LOOK has all KNOWN ones so.");
        PaidFaces x = painted();
        x.see(0, true);
        Check.due("f", x.who(), WITH_F);
        x.dies(0);
        x.dies(2);
        Check.due("dead ones, too", x.who(), WITH_F);
        x.see(1, false);
        Check.due("all KNOWN ones", x.who(), 1);
        x.dies(1);
        x.dies(3);
        Check.due("all are dead", x.who(), 1);
        x.undo();
        x.undo();
        x.undo();
        x.undo();
        x.undo();
        Check.due("LOOK as it is now: c's g is undone", x.who(), WITH_F);
        x.known(0);
        Check.due("nothing KNOWN", x.who(), ALL);
    }

    private static void forgedOnes() {
        Check.says("FORGED: PIECES with a STROKE by a forger (LAPSED ones not).");
        PaidFaces x = Check.told("feature f 9 2;feature g 1 2;sitter s 9 1;sitter t 9 0;wants t f 1;wants s g 99;wants s f 99;");
        Check.due("none", x.forged(), 0);
        x.forge(0);
        x.forge(2);
        Check.due("two", x.forged(), 5);
        x.days(1);
        Check.due("painted isn't FORGED", x.forged(), 5);
        x.days(1);
        Check.due("LAPSED isn't", x.forged(), 4);
        Check.due("g is DONE", x.piece(1, 6), 2);
        x.forge(2);
        Check.due("DONE by a forger", x.forged(), 4);
        x.dies(0);
        Check.due("LEFT OVER", x.forged(), 4);
        x.adopt();
        Check.due("adopted", x.forged(), 4);
    }

    private static void seeNumber() {
        Check.says("`int see(int feature, boolean is)`: SEEN: its number;");
        PaidFaces x = painted();
        Check.due("see", x.see(1, false), 0);
        Check.due("strike", x.strike(0), 1);
        Check.due("see", x.see(1, false), 2);
        Check.due("the same again", x.see(1, false), 3);
        Check.due("who", x.who(), ALL & ~WITH_G);
        Check.due("SEEN", x.count(6), 4);
    }

    private static void seeNone() {
        Check.says("NONE: no such FEATURE, or there are 24.");
        PaidFaces x = painted();
        for (int f : new int[] {-1, 2, 3, 5, 32, Integer.MAX_VALUE, Integer.MIN_VALUE}) {
            Check.due("see(" + f + ")", x.see(f, true), -1);
        }
        Check.due("nothing SEEN", x.count(6), 0);
        for (int k = 0; k < 24; k++) {
            x.see(0, true);
        }
        Check.due("see", x.see(0, false), -1);
        Check.due("see", x.see(2, false), -1);
        Check.due("SEEN", x.count(6), 24);
        Check.due("who", x.who(), WITH_F);
        Check.tell(x, TEXT);
        Check.due("told anew", x.see(0, true), 0);
    }

    private static void strikeNumber() {
        Check.says("`int strike(int seen)`: A STRIKE: its number;");
        PaidFaces x = painted();
        x.see(0, true);
        for (int k = 1; k < 24; k++) {
            Check.due("strike", x.strike(0), k);
            Check.due("count(6)", x.count(6), k + 1);
        }
    }

    private static void strikeNone() {
        Check.says("NONE: no such one SEEN, or there are 24.");
        PaidFaces x = painted();
        Check.due("none SEEN", x.strike(0), -1);
        x.see(0, true);
        for (int s : new int[] {-1, 1, 2, 23, 24, 32, Integer.MAX_VALUE, Integer.MIN_VALUE}) {
            Check.due("strike(" + s + ")", x.strike(s), -1);
        }
        Check.due("SEEN", x.count(6), 1);
        // Not itself: the number that it would have is none that is SEEN.
        Check.due("itself", x.strike(1), -1);
        for (int k = 1; k < 24; k++) {
            x.see(1, true);
        }
        Check.due("the first of 24", x.strike(0), -1);
        Check.due("the last of 24", x.strike(23), -1);
        Check.due("SEEN", x.count(6), 24);
    }

    private static void knownFromNowOn() {
        Check.says("KNOWN by n from now on (-1: by all, also those to come): true;");
        PaidFaces x = painted();
        Check.due("known(0)", x.known(0), true);
        x.see(0, true);
        Check.due("not those to come", x.who(), ALL);
        Check.due("known(1)", x.known(1), true);
        x.see(1, true);
        Check.due("one", x.who(), WITH_F);
        Check.due("count(7)", x.count(7), 1);
        x.days(3);
        x.keep();
        x.back();
        Check.due("from now on", x.count(7), 1);
        Check.due("known(-1)", x.known(-1), true);
        Check.due("both", x.who(), BOTH);
        x.strike(0);
        Check.due("those to come, too", x.who(), WITH_G);
        Check.due("count(7)", x.count(7), 3);
        // By as many as there are isn't by all.
        Check.due("known(3)", x.known(3), true);
        x.strike(2);
        Check.due("by 3 of 4", x.who(), WITH_G);
        Check.due("count(7)", x.count(7), 3);
    }

    private static void knownNoSuch() {
        Check.says("false: no such n.");
        PaidFaces x = painted();
        Check.due("known(1) of none", x.known(1), false);
        Check.due("known(-2)", x.known(-2), false);
        x.see(0, true);
        x.see(1, true);
        x.known(1);
        for (int n : new int[] {3, 24, 25, -2, -3, Integer.MAX_VALUE, Integer.MIN_VALUE}) {
            Check.due("known(" + n + ")", x.known(n), false);
            Check.due("as it was", x.count(7), 1);
            Check.due("as it was", x.who(), WITH_F);
        }
        for (int k = 2; k < 24; k++) {
            x.see(0, true);
        }
        Check.due("known(25)", x.known(25), false);
        Check.due("known(24)", x.known(24), true);
        Check.due("count(7)", x.count(7), 24);
    }

    private static void whoBits() {
        Check.says("WHO (bits).");
        StringBuilder text = new StringBuilder("feature f 9 1;feature g 9 1;");
        for (char s = 'a'; s <= 'e'; s++) {
            text.append("sitter ").append(s).append(" 0 0;");
        }
        PaidFaces x = Check.told(text + "wants e f 99;wants b f 99;");
        Check.due("all five", x.who(), 31);
        x.forge(0);
        x.see(0, true);
        Check.due("e", x.who(), 16);
        x.forge(1);
        Check.due("b and e", x.who(), 18);
        x.see(1, true);
        Check.due("none", x.who(), 0);
    }

    private static void forgedBits() {
        Check.says("FORGED (bits of PIECES).");
        StringBuilder text = new StringBuilder("sitter a 0 0;sitter b 0 0;");
        for (char f = 'a'; f <= 'e'; f++) {
            text.append("feature ").append(f).append(" 9 2;wants a ").append(f).append(" 99;wants b ").append(f).append(" 99;");
        }
        PaidFaces x = Check.told(text.toString());
        int bits = 0;
        for (int p = 9; p >= 0; p--) {
            x.forge(p);
            bits |= 1 << p;
            Check.due("forged", x.forged(), bits);
        }
        Check.due("all ten", x.forged(), 1023);
        x.undo();
        Check.due("undone", x.forged(), 1022);
    }
}
