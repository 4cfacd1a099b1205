/** GALLERY, AUCTION, deaths, MATCH and TRIED at their edges, sentence by sentence: the third part ahead of promise 1. */
public final class TradeEdgesTest {
    private static final String MUCH = "256*256*256*256";

    private TradeEdgesTest() {
    }

    public static void main(String[] args) {
        strokesOfDays();
        couldBePainted();
        sumOfPicks();
        fewestStrokes();
        firstByPieces();
        doneNotLeftOver();
        whoBids();
        limits();
        rounds();
        oneStays();
        noneStays();
        nobody();
        priceToOwner();
        inherits();
        heirsHeir();
        withoutHeir();
        matchedOnce();
        ownsOfFeature();
        asManyAsCanBe();
        leastSitter();
        noneBehindAll();
        tenPieces();
        atMostUpTo99();
        noHail();
        paysNothing();
        isNotPainted();
        firstIsPainted();
        allIsPaidUp();
        howManyDone();
        Check.end();
    }

    private static PaidFaces told(String... parts) {
        return Check.told(String.join("", parts));
    }

    // ---- GALLERY

    private static void gallery(PaidFaces x, int n, int sum, int strokes, int pieces) {
        Check.due("gallery(" + n + ", 0)", x.gallery(n, 0), sum);
        Check.due("gallery(" + n + ", 1)", x.gallery(n, 1), strokes);
        Check.due("gallery(" + n + ", 2)", x.gallery(n, 2), pieces);
    }

    /** SITTERS a, b, ... who each WANT a FEATURE of so many STROKES, all PAID UP behind DAY 0 with its HAIL. */
    private static PaidFaces hung(String strokes, String more) {
        StringBuilder text = new StringBuilder();
        for (int k = 0; k < strokes.length(); k++) {
            char name = (char) ('a' + k);
            text.append("feature ").append(name).append(" 1 ").append(strokes.charAt(k)).append(";sitter ").append(name).append(" 9 1;wants ")
                .append(name).append(' ').append(name).append(" 99;");
        }
        PaidFaces x = told(text.toString(), more.contains("hail") ? "" : "hail 0;", more);
        x.days(1);
        return x;
    }

    private static void strokesOfDays() {
        Check.says("GALLERY by n DAYS from now on: as many STROKES as there are of these DAYS without HAIL (none behind DAY 99);");
        PaidFaces x = hung("3", "");
        gallery(x, 0, 0, 0, 0);
        gallery(x, 2, 0, 0, 0);
        gallery(x, 3, 1, 3, 1);
        gallery(x, 100, 1, 3, 1);
        x = hung("3", "hail 0 2 3 5;");
        gallery(x, 4, 0, 0, 0);
        gallery(x, 5, 0, 0, 0);
        gallery(x, 6, 1, 3, 1);
        // Now is DAY 1: DAY 0 is none of them, the DAY n behind now neither.
        x = hung("3", "hail 0 4;");
        gallery(x, 3, 1, 3, 1);
        x = hung("3", "hail 0 3;");
        gallery(x, 3, 0, 0, 0);
        gallery(x, 4, 1, 3, 1);
        x = told("feature f 1 5;sitter s 9 1;wants s f 99;law price 1-(day<96)+(day<96)*999;");
        x.days(95);
        gallery(x, 100, 0, 0, 0);
        x.days(1);
        gallery(x, 3, 0, 0, 0);
        gallery(x, 100, 0, 0, 0);
        // 4 DAYS are left, 96 to 99: of 4 STROKES all, of 5 none.
        x = told("feature f 1 4;sitter s 9 1;wants s f 99;law price 1-(day<96)+(day<96)*999;");
        x.days(96);
        gallery(x, 3, 0, 0, 0);
        gallery(x, 4, 1, 4, 1);
        gallery(x, 5, 1, 4, 1);
        gallery(x, 100, 1, 4, 1);
        x = told("feature f 1 4;sitter s 9 1;wants s f 99;hail 98;law price 1-(day<96)+(day<96)*999;");
        x.days(96);
        gallery(x, 100, 0, 0, 0);
        x = told("feature f 1 1;sitter s 9 1;wants s f 99;law pick day<99;law price 1-(day<99)+(day<99)*999;");
        x.days(99);
        gallery(x, 1, 0, 0, 0);
        x = told("feature f 1 1;sitter s 9 1;wants s f 99;law pick day>98;law price 9-(day>98)*9;");
        x.days(99);
        gallery(x, 0, 0, 0, 0);
        gallery(x, 1, 1, 1, 1);
        x = told("feature f 9 9;sitter s 9 9;wants s f 99;hail 0 1 2 3 4 5 6 7 8 9 10 11;");
        x.days(100);
        gallery(x, 100, 0, 0, 0);
    }

    private static void couldBePainted() {
        Check.says("of PIECES that could be painted now those that can be DONE by them");
        PaidFaces x = told("feature f 2 1;feature g 1 1;feature h 1 1;feature i 1 2;sitter s 9 1;sitter t 9 1;sitter u 9 1;"
            + "wants s f 99;wants t g 99;wants t h 99;wants u i 99;hail 0 1 2;");
        gallery(x, 100, 0, 0, 0);
        x.days(1);
        gallery(x, 100, 2, 3, 10);
        x.days(1);
        gallery(x, 100, 4, 5, 15);
        x.forge(3);
        gallery(x, 100, 4, 4, 15);
        gallery(x, 2, 1, 1, 1);
        x.forge(2);
        gallery(x, 100, 3, 3, 11);
        x.dies(1);
        gallery(x, 100, 2, 2, 9);
        // LAPSED, though PAID is PRICE at least by now; not PAID UP any more.
        x = told("feature f 9 1;sitter s 9 2;sitter t 9 3;wants s f 0;wants t f 9;law price 3-(day>1)*2+(day>3)*9;hail 0 1 2 3 4;");
        x.days(2);
        Check.due("PAID UP but LAPSED", x.piece(0, 3) >= x.piece(0, 5), true);
        gallery(x, 100, 1, 1, 2);
        x.days(2);
        gallery(x, 100, 0, 0, 0);
        // What can't be DONE isn't in by a part of it.
        x = hung("45", "");
        gallery(x, 8, 1, 4, 1);
        gallery(x, 3, 0, 0, 0);
    }

    private static void sumOfPicks() {
        Check.says("for the greatest sum of E of pick (put to 0 .. 999 each; 1 without, 0 with an ERROR);");
        gallery(hung("422", "law pick (left=4)*5+(left=2)*2;"), 4, 5, 4, 1);
        gallery(hung("422", "law pick (left=4)*5+(left=2)*3;"), 4, 6, 4, 6);
        gallery(hung("422", "law pick (left=4)*5+(left=2)*3;"), 7, 8, 6, 3);
        String[] laws = {"", "law pick 0;", "law pick 1;", "law pick 998;", "law pick 999;", "law pick 1000;", "law pick 0-1;", "law pick 1/0;",
            "law pick " + MUCH + "+5;", "law pick 0-" + MUCH + "+5;", "law pick 1000*1000*1000*1000;", "law pick 1000*1000*1000*1000+1;"};
        int[] due = {1, 0, 1, 998, 999, 999, 0, 0, 999, 0, 999, 0};
        for (int k = 0; k < laws.length; k++) {
            gallery(hung("1", laws[k]), 9, due[k], due[k] == 0 ? 0 : 1, due[k] == 0 ? 0 : 1);
        }
        // Each one is put to it, not their sum.
        gallery(hung("123", "law pick 9999;"), 9, 2997, 6, 7);
        gallery(hung("123", "law pick 900-1200*(left=1);"), 9, 1800, 5, 6);
        gallery(hung("99999", "law pick 9999;"), 45, 4995, 45, 31);
        gallery(hung("99999", "law pick 9999;"), 44, 3996, 36, 15);
    }

    private static void fewestStrokes() {
        Check.says("of several those with the fewest STROKES,");
        gallery(hung("321", ""), 3, 2, 3, 6);
        gallery(hung("321", ""), 2, 1, 1, 4);
        gallery(hung("54", "law pick 7;"), 8, 7, 4, 2);
        gallery(hung("123", "law pick left-1;"), 9, 3, 5, 6);
        gallery(hung("31", "law pick (left=3)*2+(left=1)*2;"), 3, 2, 1, 2);
    }

    private static void firstByPieces() {
        Check.says("of several the first by PIECES (one that is in ahead of one that isn't).");
        gallery(hung("222", ""), 3, 1, 2, 1);
        gallery(hung("222", ""), 4, 2, 4, 3);
        // One against two of as many STROKES and as great a sum.
        gallery(hung("211", "law pick left;"), 2, 2, 2, 1);
        gallery(hung("112", "law pick left;"), 2, 2, 2, 3);
        gallery(hung("121", "law pick left;"), 2, 2, 2, 5);
        gallery(hung("1342", "law pick left;"), 5, 5, 5, 5);
        gallery(hung("12345", "law pick left;"), 7, 7, 7, 11);
        gallery(hung("12345", "law pick left;"), 9, 9, 9, 21);
        gallery(hung("12345", "law pick left;"), 10, 10, 10, 15);
    }

    // ---- AUCTION

    private static final String FOUR = "feature f 20 2;sitter o 10 1;sitter a 30 1;sitter b 40 1;sitter c 50 1;wants o f 99;";

    private static PaidFaces forSale(String... more) {
        PaidFaces x = told(FOUR, String.join("", more));
        x.forge(0);
        x.forge(0);
        return x;
    }

    private static void ends(PaidFaces x, int who, int price, int round) {
        Check.due("who", x.auction(0, 0), who);
        Check.due("price", x.auction(0, 1), price);
        Check.due("ROUND", x.auction(0, 2), round);
    }

    private static void doneNotLeftOver() {
        Check.says("AUCTION of a PIECE that is DONE, not LEFT OVER:");
        PaidFaces x = told(FOUR);
        ends(x, -1, -1, -1);
        x.forge(0);
        ends(x, -1, -1, -1);
        Check.due("sell", x.sell(0), -1);
        x.forge(0);
        ends(x, 1, 20, 21);
        x.dies(0);
        ends(x, -1, -1, -1);
        Check.due("sell", x.sell(0), -1);
        x.adopt();
        Check.due("OWNED again", x.piece(0, 7), 1);
        ends(x, 2, 20, 21);
        x = told("feature f 9 1;sitter s 9 1;sitter t 9 0;wants s f 0;");
        x.days(1);
        Check.due("LAPSED", x.auction(0, 0), -1);
        Check.due("LAPSED", x.sell(0), -1);
    }

    private static void whoBids() {
        Check.says("all that live but the OWNER bid;");
        PaidFaces x = forSale("law bid purse;");
        ends(x, 3, 41, 41);
        x.give(0, 900);
        ends(x, 3, 41, 41);
        x.dies(3);
        ends(x, 2, 31, 31);
        x.sell(0);
        // Now b OWNS it and doesn't bid, o does.
        ends(x, 0, 31, 31);
        x.dies(0);
        ends(x, 1, 1, 1);
        x.dies(1);
        ends(x, -2, 0, 1);
    }

    private static void limits() {
        Check.says("a limit: bid's E (0 .. 999; BASE without, with an ERROR), at most the purse.");
        ends(forSale("law bid 7;"), 1, 7, 8);
        ends(forSale(""), 1, 20, 21);
        ends(forSale("law bid 1/0;"), 1, 20, 21);
        ends(forSale("law bid 1000*1000*1000*1001;"), 1, 20, 21);
        ends(forSale("law bid 9/(purse-40);"), 2, 1, 1);
        ends(forSale("law bid 0-5;"), -2, 0, 1);
        ends(forSale("law bid 0-", MUCH, "+5;"), -2, 0, 1);
        ends(forSale("law bid ", MUCH, "+5;"), 3, 41, 41);
        ends(forSale("law bid 9999;"), 3, 41, 41);
        ends(forSale("law bid 45;"), 3, 41, 41);
        ends(forSale("law bid 40;"), 2, 40, 41);
        ends(forSale("law bid 39;"), 2, 39, 40);
        PaidFaces x = forSale("law bid purse*(purse>40);");
        x.give(2, 999);
        x.give(3, 999);
        ends(x, 2, 999, 1000);
        x = forSale("law bid 998+(purse>1040);");
        x.give(2, 999);
        x.give(3, 999);
        ends(x, 3, 999, 999);
        // BASE is at most the purse, too.
        x = told("feature f 20 1;sitter o 10 1;sitter a 19 1;sitter b 21 1;wants o f 99;law bid 1/0;");
        x.forge(0);
        ends(x, 2, 20, 20);
        x = told("feature f 20 1;sitter o 10 1;sitter a 0 1;sitter b 0 1;wants o f 99;");
        x.forge(0);
        ends(x, -2, 0, 1);
    }

    private static void rounds() {
        Check.says("ROUND r (1 up): the price is r; those stay whose limit is r at least.");
        ends(forSale("law bid purse/10;"), 3, 5, 5);
        ends(forSale("law bid (purse-20)/10;"), 3, 3, 3);
        ends(forSale("law bid 2-(purse=30);"), 2, 2, 3);
        ends(forSale("law bid 1;"), 1, 1, 2);
        ends(forSale("law bid 2;"), 1, 2, 3);
    }

    private static void oneStays() {
        Check.says("When one stays at most, it ends: who stays has it for r;");
        ends(forSale("law bid 20*(purse=40);"), 2, 1, 1);
        ends(forSale("law bid 20*(purse=40)+1;"), 2, 2, 2);
        ends(forSale("law bid 20*(purse=40)+9;"), 2, 10, 10);
        ends(forSale("law bid 9+(purse=50);"), 3, 10, 10);
    }

    private static void noneStays() {
        Check.says("with none the first of those who stayed the ROUND ahead, for r less 1");
        ends(forSale("law bid 9;"), 1, 9, 10);
        ends(forSale("law bid 9-(purse=30);"), 2, 9, 10);
        ends(forSale("law bid 9-5*(purse=40);"), 1, 9, 10);
        ends(forSale("law bid 9-5*(purse=50);"), 1, 9, 10);
    }

    private static void nobody() {
        Check.says("(nobody, if ROUND 1 has none).");
        PaidFaces x = forSale("law bid 0;");
        ends(x, -2, 0, 1);
        Check.due("sell", x.sell(0), -2);
        Check.due("the OWNER", x.piece(0, 7), 0);
        Check.due("nothing is held", x.count(8), 2);
        x = told("feature f 9 1;sitter s 9 9;wants s f 9;");
        x.days(1);
        ends(x, -2, 0, 1);
        Check.due("sell", x.sell(0), -2);
    }

    private static void priceToOwner() {
        Check.says("The price goes to the OWNER.");
        PaidFaces x = forSale("law bid purse;");
        x.days(1);
        int coin = x.count(9);
        Check.due("sell", x.sell(0), 41);
        Check.due("o", Check.look(x, 0, 0), 51);
        Check.due("c", Check.look(x, 3, 0), 9);
        Check.due("the PAINTER has none of it", x.count(9), coin);
        // From c it goes to a new one: not to whose face it is.
        Check.due("sell", x.sell(0), 41);
        Check.due("c", Check.look(x, 3, 0), 50);
        Check.due("o", Check.look(x, 0, 0), 10);
        Check.due("o OWNS it", x.piece(0, 7), 0);
        // All of a purse.
        x = told("feature f 20 1;sitter o 0 1;sitter a 20 1;sitter b 20 1;wants o f 99;law bid 99;");
        x.forge(0);
        Check.due("sell", x.sell(0), 20);
        Check.due("none is below 0", Check.look(x, 1, 0), 0);
        Check.due("o", Check.look(x, 0, 0), 20);
    }

    // ---- deaths

    private static final String THREE = "feature f 9 1;feature g 9 2;sitter a 5 0;sitter b 60 0;sitter c 700 0;"
        + "wants a f 99;wants b f 99;wants a g 99;";

    private static void inherits() {
        Check.says("One DIES: purse and PIECES OWNED go to the heir that lives");
        PaidFaces x = told(THREE, "heir a b;law bid 2;");
        x.forge(0);
        x.forge(1);
        x.sell(1);
        Check.due("a OWNS two", Check.look(x, 0, 3), 2);
        int purses = x.count(10);
        Check.due("dies", x.dies(0), 1);
        Check.due("purse", Check.look(x, 0, 0), 0);
        Check.due("OWNED", Check.look(x, 0, 3), 0);
        Check.due("the heir's purse", Check.look(x, 1, 0), 65);
        Check.due("the heir's PIECES", Check.look(x, 1, 3), 2);
        Check.due("none else", Check.look(x, 2, 0), 700);
        Check.due("all purses", x.count(10), purses);
        Check.due("the PAINTER", x.count(9), 0);
        Check.due("not DONE goes to none", x.piece(2, 7), -1);
        Check.due("not DONE isn't the heir's to be painted", x.forge(2), -1);
        // An empty purse, and none OWNED.
        x = told(THREE, "heir b a;heir a b;");
        x.dies(0);
        Check.due("b inherits 5", Check.look(x, 1, 0), 65);
        Check.due("b's heir is dead", x.dies(1), -2);
        Check.due("to the PAINTER", x.count(9), 65);
        // A purse may grow above 9999 by that.
        x = told("sitter a 999 0;sitter b 999 0;heir a b;");
        for (int k = 0; k < 9; k++) {
            x.give(0, 999);
            x.give(1, 999);
        }
        x.dies(0);
        Check.due("above 9999", Check.look(x, 1, 0), 19980);
    }

    private static void heirsHeir() {
        Check.says("(on to the heir's heir, if that one is dead);");
        PaidFaces x = told("sitter a 1 0;sitter b 2 0;sitter c 4 0;sitter d 8 0;sitter e 16 0;heir a b;heir b c;heir c d;heir d e;heir e a;");
        Check.due("b", x.dies(1), 2);
        Check.due("c", x.dies(2), 3);
        Check.due("d", x.dies(3), 4);
        Check.due("a's heir's heir's heir's heir", x.dies(0), 4);
        Check.due("e has all", Check.look(x, 4, 0), 31);
        Check.due("round to e itself, who is dead", x.dies(4), -2);
        Check.due("the PAINTER", x.count(9), 31);
        // One who lives is not passed over; one behind a dead one without an heir isn't reached.
        x = told("sitter a 1 0;sitter b 2 0;sitter c 4 0;heir a b;heir c b;");
        x.dies(1);
        Check.due("b has no heir", x.dies(0), -2);
        Check.due("c's heir is dead", x.dies(2), -2);
        // Two that are each other's heirs, and a third whose heirs go round among them.
        x = told("sitter a 1 0;sitter b 2 0;sitter c 4 0;heir a b;heir b a;heir c a;");
        x.dies(0);
        x.dies(1);
        Check.due("round and round", x.dies(2), -2);
    }

    private static void withoutHeir() {
        Check.says("without one the purse goes to the PAINTER, the PIECES are LEFT OVER.");
        PaidFaces x = told(THREE);
        x.forge(0);
        x.forge(1);
        Check.due("dies", x.dies(0), -2);
        Check.due("the PAINTER", x.count(9), 5);
        Check.due("purse", Check.look(x, 0, 0), 0);
        Check.due("LEFT OVER", x.piece(0, 7), -2);
        Check.due("another's isn't", x.piece(1, 7), 1);
        Check.due("not DONE isn't", x.piece(2, 7), -1);
        Check.due("DONE still", x.piece(0, 6), 2);
        Check.due("b dies", x.dies(1), -2);
        Check.due("the PAINTER", x.count(9), 65);
        Check.due("LEFT OVER", x.piece(1, 7), -2);
    }

    // ---- MATCH

    private static PaidFaces leftOver(String text, int... dead) {
        PaidFaces x = told(text);
        for (int p = 0; p < x.count(2); p++) {
            x.forge(p);
        }
        for (int s : dead) {
            x.dies(s);
        }
        return x;
    }

    private static void matched(PaidFaces x, int... due) {
        int taken = 0;
        for (int p = 0; p < due.length; p++) {
            Check.due("match(" + p + ")", x.match(p), due[p]);
            taken += due[p] >= 0 ? 1 : 0;
        }
        Check.due("adopt", x.adopt(), taken);
        for (int p = 0; p < due.length; p++) {
            if (due[p] >= 0) {
                Check.due("OWNER of " + p, x.piece(p, 7), due[p]);
            }
        }
    }

    private static String features(String names) {
        StringBuilder text = new StringBuilder();
        for (char f : names.toCharArray()) {
            text.append("feature ").append(f).append(" 1 1;");
        }
        return text.toString();
    }

    private static String sitters(String names) {
        StringBuilder text = new StringBuilder();
        for (char s : names.toCharArray()) {
            text.append("sitter ").append(s).append(" 0 0;");
        }
        return text.toString();
    }

    private static void matchedOnce() {
        Check.says("MATCH: PIECES LEFT OVER to those that live, one each at most,");
        String text = features("fgh") + sitters("abc") + "wants a f 9;wants a g 9;wants a h 9;";
        PaidFaces x = leftOver(text, 0);
        matched(x, 1, 2, -2);
        matched(x, -1, -1, 1);
        Check.due("none LEFT OVER", x.adopt(), 0);
        x = leftOver(text, 0, 1);
        matched(x, 2, -2, -2);
        x = leftOver(text, 0, 1, 2);
        matched(x, -2, -2, -2);
        Check.due("to none", x.adopt(), 0);
        x = leftOver(text);
        Check.due("none LEFT OVER", x.adopt(), 0);
        Check.due("none LEFT OVER", x.match(0), -1);
    }

    private static void ownsOfFeature() {
        Check.says("none to one who OWNS a PIECE of that FEATURE (as it is ahead of it):");
        matched(leftOver(features("f") + sitters("abc") + "wants a f 9;wants b f 9;", 0), 2, -1);
        matched(leftOver(features("f") + sitters("ab") + "wants a f 9;wants b f 9;", 0), -2, -1);
        matched(leftOver(features("fg") + sitters("ab") + "wants a f 9;wants b g 9;", 0), 1, -1);
        // Of one not DONE there is no OWNER; one who sold it OWNS it no more.
        PaidFaces x = told(features("f"), sitters("ab"), "wants a f 9;wants b f 9;");
        x.forge(0);
        x.dies(0);
        matched(x, 1, -1);
        x = told(features("f"), "sitter a 0 0;sitter b 0 0;sitter c 9 0;wants a f 9;wants b f 9;");
        x.forge(0);
        x.forge(1);
        Check.due("c has b's", x.sell(1), 1);
        x.dies(0);
        matched(x, 1, -1);
        // A PIECE that comes by the MATCH itself doesn't count, as each has one at most; by one ahead it does.
        x = leftOver(features("f") + sitters("abcd") + "wants a f 9;wants b f 9;wants c f 9;", 0, 1, 2);
        matched(x, 3, -2, -2);
        matched(x, -1, -2, -2);
    }

    private static void asManyAsCanBe() {
        Check.says("as many as can be;");
        // b OWNS g: f to b, as g can go to c alone. The least SITTER of f alone would be b, too.
        matched(leftOver(features("fg") + sitters("abc") + "wants a f 9;wants a g 9;wants b g 9;", 0), 1, 2, -1);
        // c OWNS g: f must leave b to g.
        matched(leftOver(features("fg") + sitters("abc") + "wants a f 9;wants a g 9;wants c g 9;", 0), 2, 1, -1);
        // A chain: f to b, c or d; g to b or c; h to b alone: d, c, b.
        matched(leftOver(features("fgh") + sitters("abcd") + "wants a f 9;wants a g 9;wants a h 9;wants c h 9;wants d h 9;wants d g 9;", 0),
            3, 2, 1, -1, -1, -1);
        // Five PIECES to four.
        matched(leftOver(features("fghij") + sitters("abcde") + "wants a f 9;wants a g 9;wants a h 9;wants a i 9;wants a j 9;", 0),
            1, 2, 3, 4, -2);
    }

    private static void noneBehindAll() {
        Check.says("(none: behind all).");
        // The first PIECE can go to none, and takes no one from the next.
        matched(leftOver(features("fg") + sitters("ab") + "wants b f 9;wants a f 9;wants b g 9;", 1), -2, -1, 0);
        matched(leftOver(features("fg") + sitters("abc") + "wants b f 9;wants a f 9;wants c f 9;wants b g 9;", 1), -2, -1, -1, 0);
        // A PIECE that comes later has none, though it alone could go to the least.
        matched(leftOver(features("fg") + sitters("ab") + "wants b f 9;wants b g 9;", 1), 0, -2);
        // A MATCH asked for just ahead, of many PIECES, leaves nothing behind for one of fewer.
        PaidFaces x = full("");
        for (int p = 0; p < 10; p++) {
            x.forge(p);
        }
        x.dies(0);
        x.dies(1);
        Check.due("of ten", x.match(0), 2);
        Check.tell(x, features("fg") + sitters("ab") + "wants b f 9;wants b g 9;");
        x.forge(0);
        x.forge(1);
        x.dies(1);
        matched(x, 0, -2);
    }

    /** Ten PIECES of five SITTERS: as many of each as there can be. */
    private static PaidFaces full(String more) {
        StringBuilder text = new StringBuilder(features("abcde") + "sitter a 99 1;sitter b 99 1;sitter c 9 0;sitter d 9 0;sitter e 9 0;");
        for (char f = 'a'; f <= 'e'; f++) {
            text.append("wants a ").append(f).append(" 99;wants b ").append(f).append(" 99;");
        }
        return told(text.toString(), more);
    }

    private static void tenPieces() {
        Check.says("WANTS, at most 10:");
        PaidFaces x = full("hail 0 1 2 3 4;law bid 2;");
        gallery(x, 100, 0, 0, 0);
        x.days(4);
        gallery(x, 100, 8, 8, 255);
        x.days(1);
        gallery(x, 100, 10, 10, 1023);
        gallery(x, 9, 9, 9, 511);
        gallery(x, 1, 1, 1, 1);
        tried(x, 0, 0, 9, 9);
        tried(x, 0, 0, 10, 10);
        tried(x, 2, 4, 100, 8);
        x.days(10);
        Check.due("DONE", x.count(11), 10);
        Check.due("the tenth on 14", x.log(14, 1), 9);
        Check.due("LOOK", Check.look(x, 1, 2), 31);
        Check.due("OWNED", Check.look(x, 1, 3), 5);
        Check.due("auction", x.auction(9, 1), 2);
        Check.due("sell", x.sell(9), 2);
        Check.due("OWNED", Check.look(x, 0, 3), 6);
        x.dies(0);
        x.dies(1);
        matched(x, 2, 3, 4, -2, -2, -2, -2, -2, -2, -2);
        matched(x, -1, -1, -1, 2, 3, 4, -2, -2, -2, -2);
        for (int k = 0; k < 9; k++) {
            x.adopt();
        }
        Check.due("each has one of each at last", x.adopt(), 0);
        Check.due("c", Check.look(x, 2, 3) + Check.look(x, 3, 3) + Check.look(x, 4, 3), 10);
        // Behind it a TEXT of fewer PIECES.
        Check.tell(x, features("fg") + sitters("abc") + "wants a f 9;wants a g 9;");
        x.forge(0);
        x.forge(1);
        x.dies(0);
        x.dies(1);
        matched(x, 2, -2);
        x.dies(2);
        Check.due("to none", x.adopt(), 0);
    }

    private static void leastSitter() {
        Check.says("of several by PIECES the least SITTER (none: behind all).");
        // One alone can have one, f or g or h: the first PIECE has it.
        matched(leftOver(features("fgh") + sitters("ab") + "wants a f 9;wants a g 9;wants a h 9;", 0), 1, -2, -2);
        matched(leftOver(features("fgh") + sitters("abcde") + "wants c f 9;wants c g 9;wants c h 9;", 2), 0, 1, 3);
        matched(leftOver(features("fgh") + sitters("abcde") + "wants c h 9;wants c f 9;wants c g 9;wants a h 9;", 2), 1, 0, 3, -1);
        // PIECES of two dead in the order told.
        matched(leftOver(features("fg") + sitters("abcd") + "wants b f 9;wants a g 9;wants a f 9;", 0, 1), 2, 3, -2);
        matched(leftOver(features("fg") + sitters("abcd") + "wants b f 9;wants a f 9;wants a g 9;", 0, 1), 2, 3, -2);
    }

    // ---- TRIED

    private static void tried(PaidFaces x, int what, int i, int n, int due) {
        Check.due("tried(" + what + ", " + i + ", " + n + ")", x.tried(what, i, n), due);
    }

    private static void atMostUpTo99() {
        Check.says("TRIED: n DAYS on from now (at most up to 99):");
        PaidFaces x = told("feature f 99 1;sitter s 999 1;wants s f 99;");
        tried(x, 0, 0, 98, 0);
        tried(x, 0, 0, 99, 1);
        tried(x, 0, 0, 100, 1);
        x.days(90);
        tried(x, 0, 0, 8, 0);
        tried(x, 0, 0, 9, 1);
        tried(x, 0, 0, 100, 1);
        // PAID UP on 99 alone, painted on it; nothing comes behind it.
        x = told("feature f 1 1;feature g 1 1;sitter s 9 1;sitter t 9 1;wants s f 99;wants t g 99;law price 999-998*(day>98);");
        tried(x, 0, 0, 99, 0);
        tried(x, 0, 0, 100, 1);
        x.days(99);
        tried(x, 0, 0, 1, 1);
        tried(x, 0, 0, 2, 1);
        tried(x, 0, 0, 100, 1);
        tried(x, 4, 0, 100, 1);
        x.days(1);
        tried(x, 0, 0, 100, 1);
        tried(x, 4, 0, 100, 1);
        tried(x, 4, 0, 0, 1);
    }

    private static void noHail() {
        Check.says("0 no HAIL,");
        PaidFaces x = told("feature f 1 3;sitter s 9 1;wants s f 99;hail 0 1 2 3 5;");
        tried(x, 0, 0, 2, 0);
        tried(x, 0, 0, 3, 1);
        // The others have HAIL as told.
        tried(x, 1, 0, 9, 0);
        tried(x, 3, 0, 7, 0);
        tried(x, 3, 0, 8, 1);
        tried(x, 4, 0, 7, 0);
        tried(x, 4, 0, 8, 1);
        x = told("feature f 1 1;feature g 9 1;sitter s 9 1;wants s f 99;wants s g 99;hail 0 1;");
        tried(x, 2, 1, 2, 0);
        tried(x, 2, 1, 3, 1);
        Check.due("HAIL stays told", x.days(2), 2);
        Check.due("HAIL stays told", x.log(0, 1), -1);
    }

    private static void paysNothing() {
        Check.says("1 SITTER i pays nothing (for a twin neither),");
        PaidFaces x = told("feature f 4 1;sitter s 9 2;sitter t 9 1;wants s f 99;wants t f 99;");
        tried(x, 1, 0, 9, 1);
        tried(x, 1, 1, 9, 1);
        tried(x, 1, 0, 3, 0);
        tried(x, 1, 1, 3, 1);
        // What is PAID by now stays; what is PAID UP is painted.
        x.days(2);
        tried(x, 1, 0, 1, 1);
        // A twin: b pays for a's PIECE, but not if b is i.
        x = told("feature f 4 1;sitter a 9 4;sitter b 9 0;wants a f 0;twin a b;");
        tried(x, 0, 0, 1, 1);
        tried(x, 1, 1, 1, 0);
        tried(x, 1, 0, 1, 0);
        x = told("feature f 4 1;sitter a 9 4;sitter b 9 0;sitter c 9 0;wants a f 0;twin a b;");
        tried(x, 1, 2, 1, 1);
        // The twin of i pays the own half of it all the same: 2, which is PRICE by now.
        x = told("feature f 4 1;sitter a 9 4;sitter b 9 0;wants a f 99;twin a b;law price 4-paid;");
        tried(x, 1, 0, 1, 1);
        tried(x, 1, 1, 1, 1);
        x = told("feature f 3 1;sitter a 9 3;sitter b 9 0;wants a f 99;twin a b;law price 3-paid;");
        tried(x, 1, 0, 1, 0);
        tried(x, 1, 1, 1, 1);
        // i's purse is whole then: 2 of it would have been PAID, and price takes no more than what is left of it.
        x = told("feature f 4 1;sitter a 2 4;sitter b 9 0;wants a f 99;twin a b;law price 2+4*(purse=2);");
        tried(x, 1, 0, 5, 0);
        tried(x, 1, 1, 5, 1);
        Check.due("nothing is PAID of it", x.piece(0, 3), 0);
    }

    private static void isNotPainted() {
        Check.says("2 FEATURE i isn't painted,");
        PaidFaces x = told("feature f 1 1;feature g 1 2;sitter s 9 1;sitter t 9 1;wants s f 99;wants t f 99;wants s g 99;wants t g 99;");
        tried(x, 2, 0, 9, 2);
        tried(x, 2, 0, 4, 1);
        tried(x, 2, 1, 9, 2);
        tried(x, 2, 1, 2, 2);
        // It is PAID all the same, and what is DONE stays so.
        x = told("feature f 5 1;feature g 5 1;sitter s 5 5;wants s f 99;wants s g 99;");
        tried(x, 2, 0, 9, 0);
        tried(x, 2, 1, 9, 1);
        x.forge(0);
        tried(x, 2, 0, 9, 2);
    }

    private static void firstIsPainted() {
        Check.says("3 the first PIECE that can be is painted,");
        PaidFaces x = told("feature f 3 9;feature g 1 1;sitter s 9 1;sitter t 9 1;wants s f 99;wants t g 99;law pick 9-left;");
        tried(x, 3, 0, 1, 1);
        tried(x, 3, 0, 10, 1);
        tried(x, 3, 0, 11, 2);
        x = told("feature f 1 9;feature g 1 1;sitter s 9 1;sitter t 9 1;wants s f 99;wants t g 99;law pick 9-left;");
        tried(x, 3, 0, 9, 1);
        tried(x, 3, 0, 10, 2);
        tried(x, 0, 0, 1, 1);
        // Those that can't be: not PAID UP, LAPSED, DONE, of the dead.
        x = told("feature f 9 1;feature g 1 1;sitter s 9 0;sitter t 9 1;wants s f 0;wants t g 99;");
        tried(x, 3, 0, 1, 1);
        x.days(1);
        tried(x, 3, 0, 1, 1);
        x = told("feature f 1 1;feature g 1 1;sitter s 9 1;sitter t 9 1;wants s f 99;wants t g 99;");
        x.dies(0);
        tried(x, 3, 0, 9, 1);
        x = told("feature f 1 1;sitter s 9 1;wants s f 99;law pick 0;");
        tried(x, 3, 0, 1, 1);
    }

    private static void allIsPaidUp() {
        Check.says("4 all is PAID UP:");
        PaidFaces x = told("feature f 99 2;feature g 99 1;sitter s 0 0;sitter t 0 0;wants s f 0;wants t f 0;wants t g 1;");
        int[] done = {0, 0, 1, 1, 2, 3, 3};
        for (int n = 0; n < done.length; n++) {
            tried(x, 4, 0, n, done[n]);
        }
        // What is LAPSED by now stays so, the dead stay dead, and pick is as told.
        x.days(1);
        tried(x, 4, 0, 9, 1);
        x.dies(1);
        tried(x, 4, 0, 9, 0);
        x = told("feature f 99 2;feature g 99 1;sitter s 0 0;wants s f 99;wants s g 99;law pick left-1;");
        tried(x, 4, 0, 9, 0);
        x = told("feature f 99 2;feature g 99 1;sitter s 0 0;wants s f 99;wants s g 99;law pick 5-left;");
        tried(x, 4, 0, 1, 1);
        // Nothing is PAID then: the purse, as pick's E has it, is whole.
        x = told("feature f 9 1;sitter s 9 9;wants s f 99;law pick purse=9;");
        tried(x, 4, 0, 1, 1);
        tried(x, 0, 0, 1, 0);
    }

    private static void howManyDone() {
        Check.says("how many PIECES are DONE then.");
        PaidFaces x = told("feature f 1 1;sitter s 9 1;sitter t 9 1;wants s f 99;wants t f 99;law bid 1;");
        tried(x, 0, 0, 0, 0);
        tried(x, 0, 0, 1, 1);
        tried(x, 0, 0, 2, 2);
        tried(x, 0, 0, 100, 2);
        // Those that are DONE by now, sold or LEFT OVER, too; and all is as it was.
        x.forge(0);
        x.sell(0);
        x.keep();
        x.see(0, true);
        tried(x, 0, 0, 0, 1);
        x.dies(1);
        tried(x, 0, 0, 0, 1);
        tried(x, 0, 0, 9, 1);
        Check.due("the DAY", x.count(5), 0);
        Check.due("DONE", x.count(11), 1);
        Check.due("to undo", x.count(8), 3);
        Check.due("the PAINTER", x.count(9), 8);
        Check.due("no log", x.log(0, 0), -1);
        Check.due("undo", x.undo(), 2);
        Check.due("living", Check.look(x, 1, 1), 1);
        Check.due("back", x.back(), 0);
    }
}
