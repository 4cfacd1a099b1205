/** Promises 11 to 19 and 24: gallery, auction, sell, dies, match, adopt, forge, owner, give, forged. */
public final class PaintTest {
    public static void main(String[] args) {
        galleries();
        galleryChoice();
        auctions();
        auctionLimits();
        sales();
        deaths();
        matches();
        matchByPieces();
        forgers();
        owners();
        gifts();
        Check.end();
    }

    private static void gallery(String what, PaidFaces x, int n, int sum, int strokes, int pieces) {
        Check.due(what + ": gallery(" + n + ", 0)", x.gallery(n, 0), sum);
        Check.due(what + ": gallery(" + n + ", 1)", x.gallery(n, 1), strokes);
        Check.due(what + ": gallery(" + n + ", 2)", x.gallery(n, 2), pieces);
    }

    /** One SITTER who wants all of the FEATURES told, all PAID UP from the first on by a price of 1 that sinks to it. */
    private static PaidFaces paidUp(String sizes, String more) {
        StringBuilder text = new StringBuilder();
        for (int k = 0; k < sizes.length(); k++) {
            text.append("feature ").append((char) ('a' + k)).append(" 1 ").append(sizes.charAt(k)).append(';');
        }
        text.append("sitter s 99 1;");
        for (int k = 0; k < sizes.length(); k++) {
            text.append("wants s ").append((char) ('a' + k)).append(" 99;");
        }
        return Check.told(text + "hail 0 1 2 3 4 6;" + more);
    }

    private static void galleries() {
        PaidFaces x = paidUp("321", "");
        gallery("none is PAID UP", x, 100, 0, 0, 0);
        x.days(5);
        Check.due("all PAID UP", x.count(9), 3);
        gallery("0 days", x, 0, 0, 0, 0);
        gallery("1 day", x, 1, 1, 1, 4);
        gallery("hail on 6", x, 2, 1, 1, 4);
        gallery("2 strokes", x, 3, 1, 1, 4);
        gallery("3 strokes", x, 4, 2, 3, 6);
        gallery("5 strokes", x, 6, 2, 3, 6);
        gallery("6 strokes", x, 7, 3, 6, 7);
        gallery("100 days", x, 100, 3, 6, 7);
        int[][] none = {{-1, 0}, {101, 0}, {5, 3}, {5, -1}};
        for (int[] row : none) {
            Check.due("gallery(" + row[0] + ", " + row[1] + ")", x.gallery(row[0], row[1]), -1);
        }
        x.forge(0);
        gallery("what is left", x, 3, 1, 1, 4);
        x.forge(0);
        gallery("the first of two with 1", x, 1, 1, 1, 1);
        x.forge(0);
        gallery("a DONE one is none", x, 100, 2, 3, 6);
        x.dies(0);
        gallery("none of the dead", x, 100, 0, 0, 0);
        // PAID UP and painted once on 91: 4 STROKES left, 8 DAYS left.
        x = Check.told("feature a 92 5;sitter s 99 1;wants s a 99;");
        x.days(92);
        gallery("8 DAYS left", x, 100, 1, 4, 1);
        // PAID UP and painted once on 94: 8 STROKES left, 5 DAYS left.
        x = Check.told("feature a 95 9;sitter s 99 1;wants s a 99;");
        x.days(95);
        gallery("none behind 99", x, 100, 0, 0, 0);
        // PAID UP and painted once on 95: 4 STROKES left, 4 DAYS left, the last one DAY 99.
        x = Check.told("feature a 96 5;sitter s 99 1;wants s a 99;");
        x.days(96);
        gallery("DAY 99 is in", x, 100, 1, 4, 1);
        gallery("DAY 99 is in", x, 4, 1, 4, 1);
        gallery("one less", x, 3, 0, 0, 0);
        x = Check.told("feature a 96 5;sitter s 99 1;wants s a 99;hail 99;");
        x.days(96);
        gallery("hail on 99", x, 100, 0, 0, 0);
        // PAID UP on 0, when there is hail, and on 1 there is, too: what could be painted is painted from 2 on.
        x = Check.told("feature a 1 1;sitter s 99 1;wants s a 99;hail 0 1;");
        x.days(1);
        gallery("hail now", x, 1, 0, 0, 0);
        gallery("hail now", x, 2, 1, 1, 1);
        x = Check.told("feature a 2 3;sitter s 99 1;wants s a 99;hail 1;");
        x.days(2);
        gallery("in 2", x, 2, 0, 0, 0);
        gallery("in 3", x, 3, 1, 3, 1);
    }

    private static void galleryChoice() {
        PaidFaces x = paidUp("3222", "law pick left*10-(left=3)*5;");
        x.days(5);
        // Values 25, 20, 20, 20; 4 strokes: two of 2 for 40 (the first two), against 25.
        gallery("4 strokes", x, 5, 40, 4, 6);
        gallery("5 strokes", x, 6, 45, 5, 3);
        x = paidUp("42222", "law pick (left=4)*40+(left=2)*20;");
        x.days(5);
        // 4 strokes: a alone for 40, or b and c for 40: as many strokes; a is the first by PIECES.
        gallery("first by PIECES", x, 5, 40, 4, 1);
        x = paidUp("22224", "law pick (left=4)*40+(left=2)*20;");
        x.days(5);
        gallery("first by PIECES", x, 5, 40, 4, 3);
        x = paidUp("4222", "law pick (left=4)*40+(left=2)*40;");
        x.days(5);
        gallery("fewest strokes", x, 3, 40, 2, 2);
        x = paidUp("12", "law pick left*5000;");
        x.days(5);
        gallery("put to 999 each", x, 1, 999, 1, 1);
        gallery("put to 999 each", x, 7, 1998, 3, 3);
        x = paidUp("12", "law pick 5-left*5;");
        x.days(5);
        gallery("put to 0: never with more strokes", x, 7, 0, 0, 0);
        x = paidUp("12", "law pick 5/(left-1);");
        x.days(5);
        gallery("an ERROR is 0", x, 7, 5, 2, 2);
    }

    private static final String BIDDERS = "feature f 20 1;sitter o 10 1;sitter a 30 1;sitter b 40 1;sitter c 50 1;wants o f 99;";

    private static PaidFaces forSale(String more) {
        PaidFaces x = Check.told(BIDDERS + more);
        x.forge(0);
        return x;
    }

    private static void ends(String what, PaidFaces x, int who, int price, int round) {
        Check.due(what + ": auction(0, 0)", x.auction(0, 0), who);
        Check.due(what + ": auction(0, 1)", x.auction(0, 1), price);
        Check.due(what + ": auction(0, 2)", x.auction(0, 2), round);
    }

    private static void auctions() {
        ends("BASE without a law: all at 20", forSale(""), 1, 20, 21);
        ends("the greatest purse", forSale("law bid purse;"), 3, 41, 41);
        ends("none above a half", forSale("law bid purse/2;"), 3, 21, 21);
        ends("one in round 1", forSale("law bid purse>40;"), 3, 1, 1);
        ends("one in round 1 by more", forSale("law bid (purse>40)*9;"), 3, 1, 1);
        ends("none in round 1", forSale("law bid 0;"), -2, 0, 1);
        ends("two at 1", forSale("law bid purse>30;"), 2, 1, 2);
        ends("b and c at 7", forSale("law bid (purse>30)*7;"), 2, 7, 8);
        ends("a at 9, b and c at 7", forSale("law bid 7+(purse=30)*2;"), 1, 8, 8);
        ends("below 0", forSale("law bid 0-purse;"), -2, 0, 1);
        ends("ERROR of all: BASE", forSale("law bid 1/0;"), 1, 20, 21);
        ends("ERROR of one: BASE", forSale("law bid 12/(purse-50);"), 3, 1, 1);
        PaidFaces x = forSale("");
        for (int what : new int[] {-1, 3}) {
            Check.due("auction(0, " + what + ")", x.auction(0, what), -1);
        }
        Check.due("auction(1, 0)", x.auction(1, 0), -1);
        Check.due("auction(-1, 0)", x.auction(-1, 0), -1);
        x.dies(1);
        ends("a is dead", x, 2, 20, 21);
        x.dies(2);
        ends("b too: c alone", x, 3, 1, 1);
        x.dies(3);
        ends("none but the OWNER", x, -2, 0, 1);
        Check.due("sell to nobody", x.sell(0), -2);
        Check.due("nothing is held", x.count(8), 4);
        x = Check.told(BIDDERS);
        Check.due("not DONE", x.auction(0, 0), -1);
        Check.due("not DONE", x.sell(0), -1);
        x.forge(0);
        x.dies(0);
        Check.due("LEFT OVER", x.auction(0, 0), -1);
        Check.due("LEFT OVER", x.sell(0), -1);
    }

    private static void auctionLimits() {
        PaidFaces x = forSale("law bid 9999;");
        x.give(1, 999);
        x.give(2, 999);
        ends("999 at most", x, 1, 999, 1000);
        x = forSale("law bid 9999;");
        x.give(1, 999);
        ends("at most the purse", x, 1, 51, 51);
        x = Check.told("feature f 20 1;sitter o 10 1;sitter a 5 1;sitter b 4 1;wants o f 99;");
        x.forge(0);
        ends("BASE, at most the purse", x, 1, 5, 5);
        // owned is of who bids.
        x = Check.told(BIDDERS + "wants a f 99;law bid 3+owned*4;");
        x.forge(0);
        x.forge(1);
        ends("who OWNS one bids more", x, 1, 4, 4);
    }

    private static void sales() {
        PaidFaces x = forSale("law bid purse/2;");
        Check.due("sell", x.sell(0), 21);
        Check.due("c has paid", Check.look(x, 3, 0), 29);
        Check.due("o has it", Check.look(x, 0, 0), 31);
        Check.due("c OWNS it", x.piece(0, 7), 3);
        Check.due("the painter has none", x.count(9), 0);
        Check.due("can be undone", x.count(8), 2);
        // c has 29, b 40, o 31, a 30: limits 20, 15, 15.
        ends("again", x, 2, 16, 16);
        Check.due("sell again", x.sell(0), 16);
        Check.due("c has it", Check.look(x, 3, 0), 45);
        Check.due("o no more", Check.look(x, 0, 0), 31);
        Check.due("o's LOOK", Check.look(x, 0, 2), 1);
        Check.due("sell(1)", x.sell(1), -1);
        Check.due("sell(-1)", x.sell(-1), -1);
    }

    private static void deaths() {
        String text = "feature f 1 1;feature g 1 1;sitter a 5 0;sitter b 6 0;sitter c 7 0;wants a f 99;wants a g 99;wants b f 99;";
        PaidFaces x = Check.told(text + "heir a b;heir b c;heir c a;");
        x.forge(0);
        x.forge(1);
        x.forge(2);
        Check.due("dies(3)", x.dies(3), -1);
        Check.due("dies(-1)", x.dies(-1), -1);
        Check.due("a's heir", x.dies(0), 1);
        Check.due("dead already", x.dies(0), -1);
        Check.due("purse of b", Check.look(x, 1, 0), 11);
        Check.due("PIECES of b", Check.look(x, 1, 3), 3);
        Check.due("owner of 0", x.piece(0, 7), 1);
        Check.due("c's heir's heir", x.dies(2), 1);
        Check.due("purse of b", Check.look(x, 1, 0), 18);
        Check.due("b's heirs are dead", x.dies(1), -2);
        Check.due("to the painter", x.count(9), 18);
        Check.due("LEFT OVER", x.piece(0, 7), -2);
        Check.due("LEFT OVER", x.piece(2, 7), -2);
        Check.due("all purses", x.count(10), 0);
        Check.due("none to match with", x.match(0), -2);
        Check.due("nothing adopted", x.adopt(), 0);
        Check.due("undo", x.count(8), 6);
        x = Check.told(text);
        x.forge(1);
        Check.due("no heir", x.dies(0), -2);
        Check.due("to the painter", x.count(9), 5);
        Check.due("not DONE isn't LEFT OVER", x.piece(0, 7), -1);
        Check.due("LEFT OVER", x.piece(1, 7), -2);
        Check.due("DONE still", x.count(11), 1);
    }

    private static void matches() {
        String text = "feature f 1 1;feature g 1 1;feature h 1 1;sitter a 0 0;sitter b 0 0;sitter c 0 0;"
            + "wants a f 99;wants a g 99;wants a h 99;wants b f 99;";
        PaidFaces x = Check.told(text);
        for (int p = 0; p < 4; p++) {
            x.forge(p);
        }
        Check.due("not LEFT OVER", x.match(0), -1);
        x.dies(0);
        // f can't go to b; as many as can be is two: f to c, g to b.
        Check.due("match(0)", x.match(0), 2);
        Check.due("match(1)", x.match(1), 1);
        Check.due("match(2)", x.match(2), -2);
        Check.due("match(3)", x.match(3), -1);
        Check.due("match(4)", x.match(4), -1);
        Check.due("match(-1)", x.match(-1), -1);
        Check.due("adopt", x.adopt(), 2);
        Check.due("c", x.piece(0, 7), 2);
        Check.due("b", x.piece(1, 7), 1);
        Check.due("left over still", x.piece(2, 7), -2);
        Check.due("again", x.match(2), 1);
        Check.due("adopt again", x.adopt(), 1);
        Check.due("adopt none", x.adopt(), 0);
        Check.due("can be undone", x.count(8), 7);
        x.undo();
        Check.due("LEFT OVER again", x.piece(2, 7), -2);
        // Two of one FEATURE ahead of the MATCH: b OWNS none of it and gets one, not both.
        x = Check.told("feature f 1 1;sitter a 0 0;sitter b 0 0;sitter c 0 0;wants a f 99;wants b f 99;");
        x.forge(0);
        x.forge(1);
        x.dies(0);
        x.dies(1);
        Check.due("c has the first", x.match(0), 2);
        Check.due("none for the second", x.match(1), -2);
        Check.due("adopt", x.adopt(), 1);
        Check.due("c OWNS one of it now", x.match(1), -2);
    }

    private static void matchByPieces() {
        // a's f and g are left over; b OWNS g: f to b or c, g to c alone. As many as can be: f to b, g to c.
        PaidFaces x = Check.told("feature f 1 1;feature g 1 1;sitter a 0 0;sitter b 0 0;sitter c 0 0;"
            + "wants a f 99;wants a g 99;wants b g 99;");
        x.forge(0);
        x.forge(1);
        x.forge(2);
        x.dies(0);
        Check.due("f", x.match(0), 1);
        Check.due("g", x.match(1), 2);
        // c OWNS f and g: both go to b, but only one can; the first by PIECES.
        x = Check.told("feature f 1 1;feature g 1 1;sitter a 0 0;sitter b 0 0;sitter c 0 0;"
            + "wants a f 99;wants a g 99;wants c g 99;wants c f 99;");
        for (int p = 0; p < 4; p++) {
            x.forge(p);
        }
        x.dies(0);
        Check.due("f", x.match(0), 1);
        Check.due("g", x.match(1), -2);
        // f to none but b; g to b or c: f to b though g would take b by the least.
        x = Check.told("feature g 1 1;feature f 1 1;sitter a 0 0;sitter b 0 0;sitter c 0 0;"
            + "wants a g 99;wants a f 99;wants c f 99;");
        for (int p = 0; p < 3; p++) {
            x.forge(p);
        }
        x.dies(0);
        Check.due("g", x.match(0), 2);
        Check.due("f", x.match(1), 1);
    }

    private static void forgers() {
        PaidFaces x = Check.told("feature f 9 2;sitter a 5 0;sitter b 5 0;wants a f 0;wants b f 9;");
        Check.due("forge(2)", x.forge(2), -1);
        Check.due("forge(-1)", x.forge(-1), -1);
        Check.due("none", x.forged(), 0);
        Check.due("1st", x.forge(1), 1);
        Check.due("FORGED", x.forged(), 2);
        x.days(1);
        Check.due("LAPSED", x.forge(0), -1);
        Check.due("2nd", x.forge(1), 2);
        Check.due("DONE", x.piece(1, 6), 2);
        Check.due("OWNED", x.piece(1, 7), 1);
        Check.due("FORGED still", x.forged(), 2);
        Check.due("DONE already", x.forge(1), -1);
        x = Check.told("feature f 9 2;sitter a 5 0;wants a f 9;");
        x.dies(0);
        Check.due("of the dead", x.forge(0), -1);
        Check.due("only the death", x.count(8), 1);
        x = Check.told("feature f 1 2;sitter a 5 1;wants a f 9;");
        x.days(2);
        Check.due("painted isn't FORGED", x.forged(), 0);
    }

    private static void owners() {
        PaidFaces x = forSale("law bid purse/2;heir c b;");
        Check.due("owner(1, 0)", x.owner(1, 0), -1);
        Check.due("owner(-1, 0)", x.owner(-1, 0), -1);
        Check.due("owner(0, -1)", x.owner(0, -1), -1);
        Check.due("owner(0, 0)", x.owner(0, 0), 0);
        Check.due("owner(0, 1)", x.owner(0, 1), -2);
        x.sell(0);
        Check.due("owner(0, 1)", x.owner(0, 1), 3);
        x.dies(3);
        Check.due("the heir", x.owner(0, 2), 2);
        x.dies(2);
        Check.due("LEFT OVER isn't counted", x.owner(0, 3), -2);
        x.adopt();
        Check.due("adopted", x.owner(0, 3), 0);
        x.undo();
        Check.due("undone", x.owner(0, 3), -2);
        Check.due("not DONE", Check.told(BIDDERS).owner(0, 0), -2);
        // 40 changes are kept in all: 1, and 38 sales, and one more of another PIECE; then none.
        x = Check.told("feature f 1 1;feature g 1 1;sitter a 99 0;sitter b 99 0;wants a f 99;wants b g 99;law bid 1;");
        x.forge(0);
        for (int k = 0; k < 38; k++) {
            Check.due("sell", x.sell(0), 1);
        }
        Check.due("owner(0, 38)", x.owner(0, 38), 0);
        Check.due("owner(0, 39)", x.owner(0, 39), -2);
        x.forge(1);
        Check.due("the 40th", x.owner(1, 0), 1);
        x.sell(1);
        Check.due("the 41st", x.owner(1, 1), -2);
        Check.due("but it is OWNED", x.piece(1, 7), 0);
        x.sell(0);
        Check.due("the 42nd", x.owner(0, 39), -2);
        Check.due("but it is OWNED", x.piece(0, 7), 1);
        for (int k = 0; k < 3; k++) {
            x.undo();
        }
        Check.due("room again", x.sell(0), 1);
        Check.due("the 40th", x.owner(0, 39), 1);
        // LEFT OVER is no change that is kept: 1, 37 sales, a death, a MATCH, one sale more.
        x = Check.told("feature f 1 1;sitter a 99 0;sitter b 99 0;sitter c 99 0;wants a f 99;law bid 2;");
        x.forge(0);
        for (int k = 0; k < 37; k++) {
            Check.due("sell", x.sell(0), 2);
        }
        x.dies(x.piece(0, 7));
        Check.due("LEFT OVER", x.piece(0, 7), -2);
        Check.due("adopt", x.adopt(), 1);
        Check.due("sell", x.sell(0) > 0, true);
        Check.due("the 40th", x.owner(0, 39), x.piece(0, 7));
        Check.due("no 41st", x.owner(0, 40), -2);
    }

    private static void gifts() {
        PaidFaces x = Check.told("sitter a 5 1;sitter b 999 1;");
        Check.due("give", x.give(0, 1), 6);
        Check.due("give", x.give(0, 999), 1005);
        Check.due("0", x.give(0, 0), -1);
        Check.due("1000", x.give(0, 1000), -1);
        Check.due("below 0", x.give(0, -5), -1);
        Check.due("no such sitter", x.give(2, 5), -1);
        Check.due("no such sitter", x.give(-1, 5), -1);
        for (int k = 1; k <= 9; k++) {
            Check.due("give", x.give(1, 999), 999 * (k + 1));
        }
        Check.due("above 9999", x.give(1, 10), -1);
        Check.due("9999", x.give(1, 9), 9999);
        Check.due("above 9999", x.give(1, 1), -1);
        Check.due("what can be undone", x.count(8), 12);
        x.dies(0);
        Check.due("dead", x.give(0, 5), -1);
        Check.due("out of nowhere, but for the dead", x.count(9), 1005);
    }
}
