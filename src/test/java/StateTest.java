/** Promises 6 to 8 and 29: look, piece, law, count. */
public final class StateTest {
    private static final String HEAD = "feature f 10 2;feature g 40 1;sitter s 100 10;sitter t 50 3;sitter u 7 0;";

    public static void main(String[] args) {
        looks();
        pieces();
        laws();
        errors();
        bindings();
        counts();
        Check.end();
    }

    private static void looks() {
        PaidFaces x = Check.told(HEAD + "wants s f 9;wants t f 9;wants t g 9;kin s u f;kin u t g;twin s u;heir t s;");
        Check.due("purse", Check.look(x, 1, 0), 50);
        Check.due("living", Check.look(x, 1, 1), 1);
        Check.due("look", Check.look(x, 1, 2), 0);
        Check.due("owned", Check.look(x, 1, 3), 0);
        Check.due("twin of s", Check.look(x, 0, 4), 2);
        Check.due("twin of t", Check.look(x, 1, 4), -1);
        Check.due("twin of u", Check.look(x, 2, 4), 0);
        Check.due("heir of t", Check.look(x, 1, 5), 0);
        Check.due("heir of s", Check.look(x, 0, 5), -1);
        Check.due("no such sitter", Check.look(x, 3, 0), Check.INDEX);
        Check.due("no such sitter", Check.look(x, -1, 0), Check.INDEX);
        Check.due("neither", Check.look(x, 3, 6), Check.INDEX);
        Check.due("no such what", Check.look(x, 2, 6), Check.ELEMENT);
        Check.due("no such what", Check.look(x, 2, -1), Check.ELEMENT);
        x.forge(1);
        Check.due("not DONE yet", Check.look(x, 1, 2), 0);
        x.forge(1);
        Check.due("own PIECE", Check.look(x, 1, 2), 1);
        Check.due("no kin of t by f", Check.look(x, 0, 2), 0);
        Check.due("kin by g alone", Check.look(x, 2, 2), 0);
        x.forge(2);
        Check.due("kin by g", Check.look(x, 2, 2), 2);
        Check.due("own both", Check.look(x, 1, 2), 3);
        Check.due("owned", Check.look(x, 1, 3), 2);
        x.forge(0);
        x.forge(0);
        Check.due("kin by f the other way, and g", Check.look(x, 2, 2), 3);
        Check.due("kin of kin isn't kin", Check.look(x, 0, 2), 1);
        x.sell(2);
        Check.due("LOOK when sold", Check.look(x, 1, 2), 3);
        Check.due("LOOK of the buyer", Check.look(x, 0, 2), 1);
        Check.due("owned by the buyer", Check.look(x, 0, 3), 2);
        x.dies(0);
        Check.due("dead", Check.look(x, 0, 1), 0);
        Check.due("purse of the dead", Check.look(x, 0, 0), 0);
        Check.due("LOOK of the dead", Check.look(x, 0, 2), 1);
        Check.due("heir as told", Check.look(x, 1, 5), 0);
        Check.due("LOOK of what is LEFT OVER", Check.look(x, 1, 2), 3);
    }

    private static void pieces() {
        PaidFaces x = Check.told(HEAD + "wants t g 7;wants s f 2;wants u f 0;");
        int[][] due = {{1, 1, 7, 0, 0, 40, 0, -1}, {0, 0, 2, 0, 0, 10, 0, -1}, {2, 0, 0, 0, 0, 10, 0, -1}};
        for (int p = 0; p < 3; p++) {
            for (int what = 0; what < 8; what++) {
                Check.due("piece(" + p + ", " + what + ")", x.piece(p, what), due[p][what]);
            }
            Check.due("piece(" + p + ", 8)", x.piece(p, 8), -1);
            Check.due("piece(" + p + ", -1)", x.piece(p, -1), -1);
        }
        Check.due("piece(3, 0)", x.piece(3, 0), -1);
        Check.due("piece(-1, 0)", x.piece(-1, 0), -1);
        x.days(1);
        Check.due("PAID", x.piece(0, 3), 3);
        Check.due("PAID UP, painted once", x.piece(1, 6), 1);
        Check.due("STROKES", x.piece(1, 4), 1);
        Check.due("LAPSED", x.piece(2, 6), 3);
        x.days(1);
        Check.due("DONE", x.piece(1, 6), 2);
        Check.due("OWNER", x.piece(1, 7), 0);
        x.dies(0);
        Check.due("LEFT OVER", x.piece(1, 7), -2);
        Check.due("DONE still", x.piece(1, 6), 2);
    }

    private static long bid(String e, int piece, int sitter) {
        return Check.told(HEAD + "wants t g 7;wants s f 2;law bid " + e + ";").law(2, piece, sitter);
    }

    private static void laws() {
        PaidFaces x = Check.told(HEAD + "wants t g 7;wants s f 2;law price base*1000+left*100+day*10+till;"
            + "law pick purse*1000+owned*100+paid;");
        Check.due("price's E, not put to 999", x.law(0, 0, 99), 40107);
        Check.due("PRICE", x.piece(0, 5), 999);
        Check.due("pick's E", x.law(1, 0, -7), 50000);
        Check.due("no bid", x.law(2, 0, 0), Long.MIN_VALUE);
        Check.due("no such law", x.law(3, 0, 0), Long.MIN_VALUE);
        Check.due("no such law", x.law(-1, 0, 0), Long.MIN_VALUE);
        Check.due("no such PIECE", x.law(0, 2, 0), Long.MIN_VALUE);
        Check.due("no such PIECE", x.law(0, -1, 0), Long.MIN_VALUE);
        x.days(3);
        Check.due("price's E on day 3", x.law(0, 0, 0), 40134);
        Check.due("till isn't below 0", x.law(0, 1, 0), 10230);
        Check.due("pick's E with paid", x.law(1, 0, 0), 41009);
        x.forge(0);
        Check.due("pick's E with owned, left 0", x.law(1, 0, 0), 41109);
        Check.due("price's E with left 0", x.law(0, 0, 0), 40034);
        Check.due("bid: purse of who bids", bid("purse", 0, 0), 100);
        Check.due("bid: purse of who bids", bid("purse", 0, 2), 7);
        Check.due("bid of its sitter too", bid("purse+base", 0, 1), 90);
        Check.due("bid of no sitter", bid("1", 0, 3), Long.MIN_VALUE);
        Check.due("bid of no sitter", bid("1", 0, -1), Long.MIN_VALUE);
        Check.due("PRICE at least 1", Check.told(HEAD + "wants t g 7;law price 0-5;").piece(0, 5), 1);
        Check.due("PRICE with an ERROR", Check.told(HEAD + "wants t g 7;law price 1/0;").piece(0, 5), 40);
    }

    private static void errors() {
        Check.due("/ 0", bid("1/0", 0, 0), Long.MIN_VALUE);
        Check.due("both sides", bid("1 or 1/0", 0, 0), Long.MIN_VALUE);
        Check.due("both sides", bid("0 and 1/0", 0, 0), Long.MIN_VALUE);
        Check.due("10^12", bid("1000*1000*1000*1000", 0, 0), 1_000_000_000_000L);
        Check.due("-10^12", bid("0-1000*1000*1000*1000", 0, 0), -1_000_000_000_000L);
        Check.due("above 10^12", bid("1000*1000*1000*1000+1", 0, 0), Long.MIN_VALUE);
        Check.due("below -10^12", bid("0-1000*1000*1000*1000-1", 0, 0), Long.MIN_VALUE);
        Check.due("ERROR on the way", bid("1000*1000*1000*1001/1000", 0, 0), Long.MIN_VALUE);
        Check.due("beyond a long", bid("(9999*9999*9999)*(9999*9999*9999)", 0, 0), Long.MIN_VALUE);
        Check.due("beyond a long, below 0", bid("(0-9999*9999*9999)*(9999*9999*9999)", 0, 0), Long.MIN_VALUE);
        Check.due("2^64 as a product", bid("(256*256*256*256)*(256*256*256*256)", 0, 0), Long.MIN_VALUE);
        Check.due("0 times much", bid("0*(1000*1000*1000*1000)", 0, 0), 0);
    }

    private static void bindings() {
        Check.due("* ahead of +", bid("2+3*4", 0, 0), 14);
        Check.due("- from the left", bid("10-3-2", 0, 0), 5);
        Check.due("/ from the left", bid("100/5/2*3", 0, 0), 30);
        Check.due("/ cut towards 0", bid("(0-7)/2", 0, 0), -3);
        Check.due("/ cut towards 0", bid("7/(0-2)", 0, 0), -3);
        Check.due("( )", bid("(2+3)*4", 0, 0), 20);
        Check.due("not binds less than <", bid("not 1<1", 0, 0), 1);
        Check.due("not binds more than and", bid("not 0 and 0", 0, 0), 0);
        Check.due("not not", bid("not not 7", 0, 0), 1);
        Check.due("and ahead of or", bid("1 or 0 and 0", 0, 0), 1);
        Check.due("or", bid("0 or 0-5", 0, 0), 1);
        Check.due("and", bid("4 and 8", 0, 0), 1);
        String[] signs = {"<", "<=", "=", "<>", ">=", ">"};
        int[][] due = {{1, 0, 0}, {1, 1, 0}, {0, 1, 0}, {1, 0, 1}, {0, 1, 1}, {0, 0, 1}};
        for (int k = 0; k < signs.length; k++) {
            for (int left = 1; left <= 3; left++) {
                Check.due(left + signs[k] + 2, bid(left + signs[k] + 2, 0, 0), due[k][left - 1]);
            }
        }
        Check.due("< ahead of and", bid("1<2 and 3>2", 0, 0), 1);
        Check.due("+ ahead of <", bid("1+1<2+1", 0, 0), 1);
    }

    private static void counts() {
        PaidFaces x = Check.told(HEAD + "wants t g 7;wants s f 2;kin s t f;law bid not(base)+1;law pick 3;");
        int[] due = {2, 3, 2, 1, 5, 0, 0, 0, 0, 0, 157, 0};
        for (int what = 0; what < due.length; what++) {
            Check.due("count(" + what + ")", x.count(what), due[what]);
        }
        Check.due("count(12)", x.count(12), -1);
        Check.due("count(-1)", x.count(-1), -1);
        x.days(2);
        x.see(0, true);
        x.see(1, true);
        x.known(1);
        x.give(2, 3);
        int[] later = {2, 3, 2, 1, 5, 2, 2, 1, 1, 16, 144, 1};
        for (int what = 0; what < later.length; what++) {
            Check.due("later count(" + what + ")", x.count(what), later[what]);
        }
        x.known(-1);
        Check.due("KNOWN by all", x.count(7), 2);
    }
}
