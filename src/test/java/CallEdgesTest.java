/** Promises 6 to 19 and 25 at their edges, sentence by sentence: what each call answers and what it refuses. */
public final class CallEdgesTest {
    private static final String TEXT = "feature f 20 2;feature g 7 1;sitter a 30 3;sitter b 40 4;sitter c 50 0;"
        + "wants a f 60;wants b g 2;wants b f 70;twin c a;heir a b;heir b a;hail 90;";
    private static final int[] NO_SITTER = {-1, 3, 4, 5, 31, 32, Integer.MAX_VALUE, Integer.MIN_VALUE};
    private static final int[] NO_PIECE = {-1, 3, 9, 10, 11, 31, 32, Integer.MAX_VALUE, Integer.MIN_VALUE};
    private static final int[] NO_WHAT = {-1, -2, 8, 9, 32, Integer.MAX_VALUE, Integer.MIN_VALUE};

    private CallEdgesTest() {
    }

    public static void main(String[] args) {
        lookWhat();
        lookNoSitter();
        lookNoWhat();
        pieceWhat();
        pieceStanding();
        pieceOwner();
        pieceNone();
        lawWhat();
        lawNone();
        daysGoBy();
        daysNone();
        logWhat();
        logNone();
        galleryWhat();
        galleryNone();
        auctionWhat();
        auctionNone();
        sellHeld();
        sellRefused();
        diesWho();
        diesNone();
        matchWho();
        matchNone();
        adoptMany();
        adoptNothing();
        forgeMany();
        forgeNone();
        ownerK();
        ownerNoMore();
        fortyChanges();
        giveCoin();
        giveNone();
        triedN();
        triedNone();
        Check.end();
    }

    private static PaidFaces told(String... parts) {
        return Check.told(String.join("", parts));
    }

    // ---- look, piece, law

    private static void lookWhat() {
        Check.says("Of a SITTER now, what 0 the purse, 1 whether living (1, 0), 2 LOOK (bits), 3 how many PIECES are OWNED, "
            + "4 the twin (NONE), 5 the heir as told (NONE).");
        PaidFaces x = told(TEXT);
        long[][] due = {{30, 1, 0, 0, 2, 1}, {40, 1, 0, 0, -1, 0}, {50, 1, 0, 0, 0, -1}};
        long[][] later = {{0, 0, 0, 0, 2, 1}, {65, 1, 3, 2, -1, 0}, {49, 1, 0, 0, 0, -1}};
        for (int s = 0; s < 3; s++) {
            for (int what = 0; what < 6; what++) {
                Check.due("look(" + s + ", " + what + ")", Check.look(x, s, what), due[s][what]);
            }
        }
        x.days(1);
        x.forge(1);
        x.forge(2);
        x.forge(2);
        x.dies(0);
        x.give(1, 1);
        for (int s = 0; s < 3; s++) {
            for (int what = 0; what < 6; what++) {
                Check.due("later look(" + s + ", " + what + ")", Check.look(x, s, what), later[s][what]);
            }
        }
        x.dies(2);
        Check.due("the twin stays told", Check.look(x, 0, 4), 2);
        Check.due("the twin of the dead", Check.look(x, 2, 4), 0);
        Check.due("a dead heir as told", Check.look(x, 1, 5), 0);
    }

    private static void lookNoSitter() {
        Check.says("IndexOutOfBoundsException: no such SITTER.");
        PaidFaces x = told(TEXT);
        for (int s : NO_SITTER) {
            for (int what = 0; what < 6; what++) {
                Check.due("look(" + s + ", " + what + ")", Check.look(x, s, what), Check.INDEX);
            }
            Check.due("neither: look(" + s + ", 6)", Check.look(x, s, 6), Check.INDEX);
        }
        Check.due("without SITTERS", Check.look(new PaidFaces(), 0, 0), Check.INDEX);
        x.dies(0);
        Check.due("a dead one is one", Check.look(x, 0, 0), 0);
        Check.due("it changes nothing", x.count(8), 1);
    }

    private static void lookNoWhat() {
        Check.says("NoSuchElementException: no such what.");
        PaidFaces x = told(TEXT);
        for (int s = 0; s < 3; s++) {
            Check.due("look(" + s + ", 6)", Check.look(x, s, 6), Check.ELEMENT);
            for (int what : NO_WHAT) {
                Check.due("look(" + s + ", " + what + ")", Check.look(x, s, what), Check.ELEMENT);
            }
        }
    }

    private static void pieceWhat() {
        Check.says("Of a PIECE (as told, 0 up), what 0 SITTER, 1 FEATURE, 2 its DAY, 3 PAID, 4 STROKES done, 5 PRICE now,");
        PaidFaces x = told(TEXT, "law price 9+day;");
        int[][] due = {{0, 0, 60, 0, 0, 9}, {1, 1, 2, 0, 0, 9}, {1, 0, 70, 0, 0, 9}};
        int[][] later = {{0, 0, 60, 6, 1, 11}, {1, 1, 2, 8, 0, 11}, {1, 0, 70, 0, 2, 11}};
        for (int p = 0; p < 3; p++) {
            for (int what = 0; what < 6; what++) {
                Check.due("piece(" + p + ", " + what + ")", x.piece(p, what), due[p][what]);
            }
        }
        x.days(2);
        x.forge(0);
        x.forge(2);
        x.forge(2);
        for (int p = 0; p < 3; p++) {
            for (int what = 0; what < 6; what++) {
                Check.due("later piece(" + p + ", " + what + ")", x.piece(p, what), later[p][what]);
            }
        }
    }

    private static void pieceStanding() {
        Check.says("6 0 open, 1 PAID UP, 2 DONE, 3 LAPSED (the greatest of these),");
        PaidFaces x = told("feature f 4 1;feature g 4 2;sitter s 9 2;sitter t 9 4;wants s f 0;wants s g 9;wants t g 9;wants t f 9;"
            + "hail 0 1 2;law price 4-(day>2)*9;");
        int[] open = {0, 0, 0, 0};
        int[] onDay3 = {3, 1, 1, 1};
        for (int p = 0; p < 4; p++) {
            Check.due("open " + p, x.piece(p, 6), open[p]);
        }
        x.days(1);
        Check.due("LAPSED", x.piece(0, 6), 3);
        Check.due("PAID UP", x.piece(2, 6), 1);
        x.days(2);
        for (int p = 0; p < 4; p++) {
            Check.due("on DAY 3 " + p, x.piece(p, 6), onDay3[p]);
        }
        Check.due("LAPSED is PAID UP, too", x.piece(0, 3) >= x.piece(0, 5), true);
        x.forge(3);
        Check.due("DONE is PAID UP, too", x.piece(3, 6), 2);
        x = told("feature f 4 1;sitter s 9 0;wants s f 9;");
        x.forge(0);
        Check.due("DONE, not PAID UP", x.piece(0, 6), 2);
        x.dies(0);
        Check.due("DONE, LEFT OVER", x.piece(0, 6), 2);
    }

    private static void pieceOwner() {
        Check.says("7 its OWNER (NONE: not DONE; -2: LEFT OVER).");
        PaidFaces x = told(TEXT);
        Check.due("not DONE", x.piece(0, 7), -1);
        x.forge(0);
        Check.due("not DONE", x.piece(0, 7), -1);
        x.forge(0);
        Check.due("a", x.piece(0, 7), 0);
        x.sell(0);
        Check.due("b", x.piece(0, 7), 1);
        x.dies(0);
        x.dies(1);
        Check.due("LEFT OVER", x.piece(0, 7), -2);
        Check.due("not DONE", x.piece(1, 7), -1);
        x.adopt();
        Check.due("c", x.piece(0, 7), 2);
        x = told("feature f 4 1;sitter s 9 0;wants s f 0;");
        x.days(1);
        Check.due("LAPSED", x.piece(0, 7), -1);
    }

    private static void pieceNone() {
        Check.says("its OWNER (NONE: not DONE; -2: LEFT OVER). NONE: no such ones.");
        PaidFaces x = told(TEXT);
        for (int p : NO_PIECE) {
            for (int what = 0; what < 8; what++) {
                Check.due("piece(" + p + ", " + what + ")", x.piece(p, what), -1);
            }
            Check.due("piece(" + p + ", -1)", x.piece(p, -1), -1);
        }
        for (int what : NO_WHAT) {
            Check.due("piece(0, " + what + ")", x.piece(0, what), -1);
        }
    }

    private static void lawWhat() {
        Check.says("A law's E (what 0 price, 1 pick) of a PIECE now; 2 bid of a SITTER for one.");
        PaidFaces x = told(TEXT, "law price base*1000+purse-2000;law pick 0-left-day;law bid purse*100+base;");
        Check.due("price, not put to 1 .. 999", x.law(0, 0, 0), 18030);
        Check.due("price of b's", x.law(0, 1, 0), 5040);
        Check.due("pick, below 0", x.law(1, 0, 0), -2);
        for (int s = 0; s < 3; s++) {
            Check.due("bid of " + s, x.law(2, 0, s), (30 + 10 * s) * 100 + 20);
            Check.due("bid of " + s + " for g", x.law(2, 1, s), (30 + 10 * s) * 100 + 7);
        }
        x.days(2);
        Check.due("now", x.law(1, 0, 0), -4);
        x.forge(1);
        Check.due("of one DONE", x.law(1, 1, 0), -2);
        x.dies(0);
        Check.due("bid of the dead", x.law(2, 0, 0), 20);
        Check.due("price of the dead one's", x.law(0, 0, 0), 18000);
    }

    private static void lawNone() {
        Check.says("Long.MIN_VALUE: an ERROR, no such law, no such ones (sitter isn't looked at but for 2).");
        PaidFaces x = told(TEXT, "law price 1/day;law pick 5;law bid 6;");
        Check.due("an ERROR", x.law(0, 0, 0), Long.MIN_VALUE);
        x.days(1);
        Check.due("none any more", x.law(0, 0, 0), 1);
        for (int what : new int[] {-1, 3, 4, 32, Integer.MAX_VALUE, Integer.MIN_VALUE}) {
            Check.due("law(" + what + ", 0, 0)", x.law(what, 0, 0), Long.MIN_VALUE);
        }
        for (int p : NO_PIECE) {
            for (int what = 0; what < 3; what++) {
                Check.due("law(" + what + ", " + p + ", 0)", x.law(what, p, 0), Long.MIN_VALUE);
            }
        }
        for (int s : NO_SITTER) {
            Check.due("law(0, 0, " + s + ")", x.law(0, 0, s), 1);
            Check.due("law(1, 0, " + s + ")", x.law(1, 0, s), 5);
            Check.due("law(2, 0, " + s + ")", x.law(2, 0, s), Long.MIN_VALUE);
        }
        String[] laws = {"law price 7;", "law pick 7;", "law bid 7;"};
        for (int k = 0; k < 3; k++) {
            PaidFaces one = told(TEXT, laws[k]);
            for (int what = 0; what < 3; what++) {
                Check.due("law(" + what + ") with " + laws[k], one.law(what, 0, 0), what == k ? 7 : Long.MIN_VALUE);
            }
        }
    }

    // ---- days and log

    private static void daysGoBy() {
        Check.says("So many DAYS (0 .. 100) go by: which one it is;");
        PaidFaces x = told(TEXT);
        Check.due("days(0)", x.days(0), 0);
        Check.due("days(1)", x.days(1), 1);
        Check.due("days(0)", x.days(0), 1);
        Check.due("one has gone by", x.log(0, 0), 7);
        Check.due("no other one", x.log(1, 0), -1);
        Check.due("days(99)", x.days(99), 100);
        Check.due("days(0)", x.days(0), 100);
        Check.due("days(100)", told(TEXT).days(100), 100);
        PaidFaces one = told(TEXT);
        PaidFaces all = told(TEXT);
        all.days(30);
        for (int k = 1; k <= 30; k++) {
            Check.due("days(1)", one.days(1), k);
        }
        for (int d = 0; d < 30; d++) {
            for (int what = 0; what < 3; what++) {
                Check.due("one by one or all", one.log(d, what), all.log(d, what));
            }
        }
    }

    private static void daysNone() {
        Check.says("NONE, and none does: no such number, behind 100.");
        PaidFaces x = told(TEXT);
        for (int n : new int[] {-1, 101, 102, Integer.MAX_VALUE, Integer.MIN_VALUE}) {
            Check.due("days(" + n + ")", x.days(n), -1);
            Check.due("none does", x.count(5), 0);
        }
        x.days(60);
        int purses = x.count(10);
        for (int n : new int[] {41, 100, 101, -1, -60, -61, Integer.MAX_VALUE, Integer.MAX_VALUE - 59, Integer.MIN_VALUE}) {
            Check.due("days(" + n + ")", x.days(n), -1);
            Check.due("none does", x.count(5), 60);
            Check.due("nothing is PAID", x.count(10), purses);
        }
        Check.due("days(40)", x.days(40), 100);
        Check.due("days(1)", x.days(1), -1);
        Check.due("DAY 100", x.count(5), 100);
    }

    private static void logWhat() {
        Check.says("What there was on a DAY gone by, what 0: coin PAID, 1: the PIECE that had a STROKE (NONE: none), 2: how many LAPSED.");
        PaidFaces x = told("feature f 3 1;feature g 9 1;sitter s 9 2;sitter t 4 1;wants s f 9;wants s g 2;wants t g 2;hail 1;");
        x.days(4);
        int[][] due = {{3, -1, 0}, {2, -1, 0}, {3, 0, 2}, {0, -1, 0}};
        for (int d = 0; d < 4; d++) {
            for (int what = 0; what < 3; what++) {
                Check.due("log(" + d + ", " + what + ")", x.log(d, what), due[d][what]);
            }
        }
        // What is done between DAYS is none of a DAY.
        x = told("feature f 3 2;sitter s 9 0;sitter t 9 0;wants s f 9;law bid 5;");
        x.forge(0);
        x.days(1);
        x.forge(0);
        x.sell(0);
        x.dies(0);
        x.days(1);
        for (int d = 0; d < 2; d++) {
            Check.due("coin", x.log(d, 0), 0);
            Check.due("STROKE", x.log(d, 1), -1);
            Check.due("LAPSED", x.log(d, 2), 0);
        }
    }

    private static void logNone() {
        Check.says("2: how many LAPSED. NONE: no such ones.");
        PaidFaces x = told(TEXT);
        Check.due("DAY 0 hasn't gone by", x.log(0, 0), -1);
        x.days(5);
        for (int d : new int[] {-1, 5, 6, 99, 100, 101, Integer.MAX_VALUE, Integer.MIN_VALUE}) {
            for (int what = 0; what < 3; what++) {
                Check.due("log(" + d + ", " + what + ")", x.log(d, what), -1);
            }
        }
        for (int what : new int[] {-1, 3, 4, 32, Integer.MAX_VALUE, Integer.MIN_VALUE}) {
            Check.due("log(0, " + what + ")", x.log(0, what), -1);
        }
        Check.due("DAY 4", x.log(4, 2), 0);
        x.days(95);
        Check.due("DAY 99", x.log(99, 2), 0);
        Check.due("DAY 100", x.log(100, 2), -1);
    }

    // ---- gallery, auction, sell

    private static PaidFaces open() {
        PaidFaces x = told("feature f 1 2;feature g 1 1;sitter s 9 1;sitter t 9 1;wants s f 99;wants t g 99;hail 0;law pick 5+left;");
        x.days(1);
        return x;
    }

    private static void galleryWhat() {
        Check.says("GALLERY (n 0 .. 100), what 0: the sum, 1: STROKES, 2: PIECES (bits).");
        PaidFaces x = open();
        int[][] due = {{0, 0, 0}, {6, 1, 2}, {7, 2, 1}, {13, 3, 3}};
        for (int n : new int[] {0, 1, 2, 3, 99, 100}) {
            for (int what = 0; what < 3; what++) {
                Check.due("gallery(" + n + ", " + what + ")", x.gallery(n, what), due[Math.min(n, 3)][what]);
            }
        }
        Check.due("nothing is painted by it", x.piece(1, 4), 0);
        Check.due("the DAY", x.count(5), 1);
    }

    private static void galleryNone() {
        Check.says("2: PIECES (bits). NONE: no such ones.");
        PaidFaces x = open();
        for (int n : new int[] {-1, 101, 102, Integer.MAX_VALUE, Integer.MIN_VALUE}) {
            for (int what = 0; what < 3; what++) {
                Check.due("gallery(" + n + ", " + what + ")", x.gallery(n, what), -1);
            }
        }
        for (int what : new int[] {-1, 3, 4, 32, Integer.MAX_VALUE, Integer.MIN_VALUE}) {
            Check.due("gallery(3, " + what + ")", x.gallery(3, what), -1);
            Check.due("gallery(0, " + what + ")", x.gallery(0, what), -1);
        }
    }

    private static PaidFaces done() {
        PaidFaces x = told(TEXT);
        x.forge(0);
        x.forge(0);
        return x;
    }

    private static void auctionWhat() {
        Check.says("AUCTION as it would be, what 0: who has it (-2: nobody), 1: the price (0), 2: in which ROUND it ends.");
        PaidFaces x = done();
        int[] due = {1, 20, 21};
        for (int what = 0; what < 3; what++) {
            Check.due("auction(0, " + what + ")", x.auction(0, what), due[what]);
        }
        Check.due("nothing is held", x.piece(0, 7), 0);
        Check.due("nothing is held", x.count(8), 2);
        Check.due("nothing is PAID", Check.look(x, 1, 0), 40);
        x.dies(1);
        x.dies(2);
        int[] nobody = {-2, 0, 1};
        for (int what = 0; what < 3; what++) {
            Check.due("nobody: auction(0, " + what + ")", x.auction(0, what), nobody[what]);
        }
    }

    private static void auctionNone() {
        Check.says("2: in which ROUND it ends. NONE: no such ones, not DONE, LEFT OVER.");
        PaidFaces x = done();
        for (int p : NO_PIECE) {
            for (int what = 0; what < 3; what++) {
                Check.due("auction(" + p + ", " + what + ")", x.auction(p, what), -1);
            }
        }
        for (int what : new int[] {-1, 3, 4, 32, Integer.MAX_VALUE, Integer.MIN_VALUE}) {
            Check.due("auction(0, " + what + ")", x.auction(0, what), -1);
        }
        for (int what = 0; what < 3; what++) {
            Check.due("not DONE: auction(1, " + what + ")", x.auction(1, what), -1);
        }
        x.dies(1);
        x.dies(0);
        for (int what = 0; what < 3; what++) {
            Check.due("LEFT OVER: auction(0, " + what + ")", x.auction(0, what), -1);
        }
    }

    private static void sellHeld() {
        Check.says("AUCTION held: for how much; -2: nobody has it (nothing is held);");
        PaidFaces x = done();
        Check.due("sell", x.sell(0), 20);
        Check.due("the OWNER", x.piece(0, 7), 1);
        Check.due("a", Check.look(x, 0, 0), 50);
        Check.due("b", Check.look(x, 1, 0), 20);
        Check.due("can be undone", x.count(8), 3);
        x = done();
        x.dies(1);
        x.dies(2);
        Check.due("nobody", x.sell(0), -2);
        Check.due("the OWNER", x.piece(0, 7), 0);
        Check.due("not held", x.count(8), 4);
        Check.due("no other OWNER", x.owner(0, 1), -2);
    }

    private static void sellRefused() {
        Check.says("NONE: no such ones, not DONE, LEFT OVER.");
        PaidFaces x = done();
        for (int p : NO_PIECE) {
            Check.due("sell(" + p + ")", x.sell(p), -1);
        }
        Check.due("not DONE", x.sell(1), -1);
        Check.due("not held", x.count(8), 2);
        x.dies(1);
        x.dies(0);
        Check.due("LEFT OVER", x.sell(0), -1);
        Check.due("not held", x.count(8), 4);
    }

    // ---- dies, match, adopt

    private static void diesWho() {
        Check.says("One DIES: who inherits (-2: nobody);");
        PaidFaces x = told(TEXT);
        Check.due("a's heir", x.dies(0), 1);
        Check.due("b's is dead", x.dies(1), -2);
        Check.due("c has none", x.dies(2), -2);
        Check.due("with nothing to inherit", told("sitter a 0 0;sitter b 0 0;heir a b;").dies(0), 1);
    }

    private static void diesNone() {
        Check.says("NONE: no such one, dead.");
        PaidFaces x = told(TEXT);
        for (int s : NO_SITTER) {
            Check.due("dies(" + s + ")", x.dies(s), -1);
        }
        Check.due("nothing to undo", x.count(8), 0);
        x.dies(0);
        Check.due("dead", x.dies(0), -1);
        Check.due("the heir has it once", Check.look(x, 1, 0), 70);
        Check.due("one", x.count(8), 1);
        x.days(1);
        Check.due("dead still", x.dies(0), -1);
    }

    private static PaidFaces leftOver() {
        PaidFaces x = done();
        x.dies(1);
        x.dies(0);
        return x;
    }

    private static void matchWho() {
        Check.says("MATCH as it would be, of a PIECE LEFT OVER: who has it (-2: nobody);");
        PaidFaces x = leftOver();
        Check.due("match", x.match(0), 2);
        Check.due("nothing is held", x.piece(0, 7), -2);
        Check.due("nothing is held", x.count(8), 4);
        x.dies(2);
        Check.due("nobody", x.match(0), -2);
    }

    private static void matchNone() {
        Check.says("who has it (-2: nobody); NONE: no such ones.");
        PaidFaces x = done();
        Check.due("OWNED", x.match(0), -1);
        Check.due("not DONE", x.match(1), -1);
        x = leftOver();
        for (int p : NO_PIECE) {
            Check.due("match(" + p + ")", x.match(p), -1);
        }
        Check.due("not DONE", x.match(1), -1);
    }

    private static void adoptMany() {
        Check.says("MATCH held: how many have one");
        PaidFaces x = leftOver();
        Check.due("one", x.adopt(), 1);
        Check.due("c OWNS it", x.piece(0, 7), 2);
        Check.due("the second OWNER", x.owner(0, 1), 2);
        Check.due("can be undone", x.count(8), 5);
        StringBuilder text = new StringBuilder("sitter a 0 0;sitter b 0 0;sitter c 0 0;sitter d 0 0;sitter e 0 0;");
        for (char f = 'a'; f <= 'e'; f++) {
            text.append("feature ").append(f).append(" 1 1;wants e ").append(f).append(" 9;");
        }
        x = told(text.toString());
        for (int p = 0; p < 5; p++) {
            x.forge(p);
        }
        x.dies(4);
        Check.due("four of five", x.adopt(), 4);
        Check.due("then one", x.adopt(), 1);
        Check.due("then none", x.adopt(), 0);
    }

    private static void adoptNothing() {
        Check.says("(0: nothing is held).");
        PaidFaces x = done();
        Check.due("none LEFT OVER", x.adopt(), 0);
        Check.due("nothing is held", x.count(8), 2);
        x = leftOver();
        x.dies(2);
        Check.due("to none", x.adopt(), 0);
        Check.due("nothing is held", x.count(8), 5);
        Check.due("LEFT OVER", x.piece(0, 7), -2);
        Check.due("undo is of the death", x.undo(), 4);
        Check.due("living", Check.look(x, 2, 1), 1);
    }

    // ---- forge, owner, give

    private static void forgeMany() {
        Check.says("A forger does a STROKE (PAID UP or not): how many there are then (DONE, OWNED by that, too);");
        PaidFaces x = told("feature f 9 9;feature g 1 2;sitter s 9 1;wants s g 99;wants s f 99;hail 5;");
        for (int k = 1; k <= 9; k++) {
            Check.due("OWNER", x.piece(1, 7), -1);
            Check.due("forge", x.forge(1), k);
        }
        Check.due("DONE", x.piece(1, 6), 2);
        Check.due("OWNED", x.piece(1, 7), 0);
        Check.due("the first OWNER", x.owner(1, 0), 0);
        Check.due("nothing is PAID", x.count(9), 0);
        x.days(1);
        Check.due("PAID UP, one STROKE", x.piece(0, 4), 1);
        Check.due("one more", x.forge(0), 2);
        Check.due("DONE", x.count(11), 2);
        x = told("feature f 1 2;sitter s 9 1;wants s f 99;hail 0 1;");
        Check.due("in HAIL", x.forge(0), 1);
        x.days(100);
        Check.due("DONE by 100", x.forge(0), -1);
        x = told("feature f 9 2;sitter s 9 0;wants s f 99;");
        x.days(99);
        Check.due("on 99", x.forge(0), 1);
    }

    private static void forgeNone() {
        Check.says("NONE: no such PIECE, DONE, LAPSED, its SITTER is dead.");
        PaidFaces x = told(TEXT);
        for (int p : NO_PIECE) {
            Check.due("forge(" + p + ")", x.forge(p), -1);
        }
        x.days(1);
        Check.due("g of b", x.forge(1), 1);
        Check.due("DONE", x.forge(1), -1);
        Check.due("STROKES", x.piece(1, 4), 1);
        x.dies(0);
        Check.due("its SITTER is dead", x.forge(0), -1);
        Check.due("STROKES", x.piece(0, 4), 0);
        Check.due("not FORGED", x.forged(), 2);
        Check.due("two to undo", x.count(8), 2);
        x = told("feature f 9 2;sitter s 9 0;wants s f 0;");
        x.days(1);
        Check.due("LAPSED", x.forge(0), -1);
        Check.due("STROKES", x.piece(0, 4), 0);
        Check.due("not FORGED", x.forged(), 0);
        Check.due("nothing to undo", x.count(8), 0);
    }

    private static void ownerK() {
        Check.says("The k-th OWNER of a PIECE since it is DONE (0 up; LEFT OVER isn't counted);");
        PaidFaces x = done();
        Check.due("the first", x.owner(0, 0), 0);
        x.sell(0);
        x.sell(0);
        int[] due = {0, 1, 0};
        for (int k = 0; k < due.length; k++) {
            Check.due("owner(0, " + k + ")", x.owner(0, k), due[k]);
        }
        x.dies(1);
        x.dies(0);
        Check.due("LEFT OVER", x.piece(0, 7), -2);
        Check.due("LEFT OVER isn't counted", x.owner(0, 3), -2);
        x.adopt();
        Check.due("the next one is", x.owner(0, 3), 2);
        x = done();
        x.dies(0);
        Check.due("an heir", x.owner(0, 1), 1);
        Check.due("of another PIECE none", x.owner(1, 0), -2);
    }

    private static void ownerNoMore() {
        Check.says("-2: there were no so many; NONE: no such ones.");
        PaidFaces x = done();
        for (int k : new int[] {1, 2, 39, 40, 41, Integer.MAX_VALUE}) {
            Check.due("owner(0, " + k + ")", x.owner(0, k), -2);
        }
        Check.due("not DONE", x.owner(1, 0), -2);
        for (int p : NO_PIECE) {
            Check.due("owner(" + p + ", 0)", x.owner(p, 0), -1);
            Check.due("owner(" + p + ", -1)", x.owner(p, -1), -1);
        }
        for (int k : new int[] {-1, -2, Integer.MIN_VALUE}) {
            Check.due("owner(0, " + k + ")", x.owner(0, k), -1);
        }
    }

    private static void fortyChanges() {
        Check.says("At most 40 changes are kept in all, the first ones.");
        PaidFaces x = told("feature f 1 1;feature g 1 1;sitter a 99 0;sitter b 99 0;wants a f 99;wants b g 99;law bid 1;");
        x.forge(0);
        x.forge(1);
        for (int k = 0; k < 19; k++) {
            x.sell(0);
            x.sell(1);
        }
        Check.due("the 20th of f", x.owner(0, 19), 1);
        Check.due("the 20th of g", x.owner(1, 19), 0);
        Check.due("no more of f", x.owner(0, 20), -2);
        Check.due("no more of g", x.owner(1, 20), -2);
        Check.due("one more", x.sell(0), 1);
        Check.due("not kept", x.owner(0, 20), -2);
        Check.due("but held", x.piece(0, 7), 0);
        Check.due("the first ones stay", x.owner(0, 0), 0);
        x.dies(0);
        Check.due("LEFT OVER", x.piece(0, 7), -2);
        Check.due("adopt", x.adopt(), 1);
        Check.due("not kept", x.owner(0, 20), -2);
        // What is undone is kept no more: there is room for another.
        x.undo();
        x.undo();
        x.undo();
        x.undo();
        Check.due("g's last is undone", x.owner(1, 19), -2);
        Check.due("sell", x.sell(0), 1);
        Check.due("f's next is kept", x.owner(0, 20), 0);
    }

    private static void giveCoin() {
        Check.says("Coin 1 .. 999 is given to one that lives (out of nowhere): the purse then;");
        PaidFaces x = told(TEXT);
        Check.due("give 1", x.give(0, 1), 31);
        Check.due("give 999", x.give(0, 999), 1030);
        Check.due("purse", Check.look(x, 0, 0), 1030);
        Check.due("another's", Check.look(x, 1, 0), 40);
        Check.due("the PAINTER", x.count(9), 0);
        Check.due("all purses", x.count(10), 1120);
    }

    private static void giveNone() {
        Check.says("NONE: no such ones, it would be above 9999.");
        PaidFaces x = told(TEXT);
        for (int s : NO_SITTER) {
            Check.due("give(" + s + ", 5)", x.give(s, 5), -1);
        }
        for (int coin : new int[] {0, -1, -30, 1000, 1001, Integer.MAX_VALUE, Integer.MIN_VALUE}) {
            Check.due("give(0, " + coin + ")", x.give(0, coin), -1);
        }
        Check.due("purse", Check.look(x, 0, 0), 30);
        Check.due("nothing to undo", x.count(8), 0);
        for (int k = 0; k < 9; k++) {
            x.give(0, 999);
        }
        Check.due("9021 and 979 is above", x.give(0, 979), -1);
        Check.due("9021 and 978 is 9999", x.give(0, 978), 9999);
        Check.due("1 more is above", x.give(0, 1), -1);
        Check.due("purse", Check.look(x, 0, 0), 9999);
        x.dies(0);
        Check.due("dead", x.give(0, 1), -1);
        Check.due("above by what is inherited", Check.look(x, 1, 0), 10039);
        Check.due("above", x.give(1, 1), -1);
    }

    // ---- tried

    private static void triedN() {
        Check.says("TRIED (n 0 .. 100);");
        PaidFaces x = told("feature f 1 1;feature g 50 1;sitter s 99 1;wants s f 99;wants s g 99;");
        int[] due = {0, 1, 1, 2, 2};
        int[] days = {0, 1, 50, 51, 100};
        for (int k = 0; k < days.length; k++) {
            Check.due("tried(0, 0, " + days[k] + ")", x.tried(0, 0, days[k]), due[k]);
            Check.due("tried(3, 0, " + days[k] + ")", x.tried(3, 0, days[k]), due[k]);
        }
        Check.due("tried(4, 0, 2)", x.tried(4, 0, 2), 2);
        Check.due("tried(1, 0, 100)", x.tried(1, 0, 100), 0);
        Check.due("tried(2, 1, 100)", x.tried(2, 1, 100), 1);
    }

    private static void triedNone() {
        Check.says("NONE: no such ones (i 0 of 0, 3, 4).");
        PaidFaces x = told(TEXT);
        int[] many = {1, 3, 2, 1, 1};
        for (int what = 0; what < 5; what++) {
            for (int i : new int[] {-1, 0, 1, 2, 3, 4, 5, 32, Integer.MAX_VALUE, Integer.MIN_VALUE}) {
                boolean such = i >= 0 && i < many[what];
                Check.due("tried(" + what + ", " + i + ", 0)", x.tried(what, i, 0), such ? 0 : -1);
                Check.due("tried(" + what + ", " + i + ", -1)", x.tried(what, i, -1), -1);
            }
            for (int n : new int[] {-1, 101, 102, Integer.MAX_VALUE, Integer.MIN_VALUE}) {
                Check.due("tried(" + what + ", 0, " + n + ")", x.tried(what, 0, n), -1);
            }
        }
        for (int what : new int[] {-1, 5, 6, 32, Integer.MAX_VALUE, Integer.MIN_VALUE}) {
            Check.due("tried(" + what + ", 0, 3)", x.tried(what, 0, 3), -1);
        }
        x.dies(0);
        Check.due("a dead SITTER is one", x.tried(1, 0, 0), 0);
    }
}
