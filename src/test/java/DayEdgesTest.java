/** What a DAY is and what an E is worth, sentence by sentence, at the edges: the second part ahead of promise 1. */
public final class DayEdgesTest {
    private static final String MUCH = "256*256*256*256";

    private DayEdgesTest() {
    }

    public static void main(String[] args) {
        piecesOfWho();
        doneThenOwned();
        price();
        paidUp();
        noMoreBehind99();
        payersByNumbers();
        firstOfTheirs();
        rate();
        twinsHalf();
        whatIsInThePurse();
        toThePainter();
        hail();
        whoSits();
        greatestPick();
        ownedByItsSitter();
        lapse();
        names();
        longs();
        truths();
        cut();
        errors();
        lookOfOwn();
        lookOfKin();
        Check.end();
    }

    private static PaidFaces told(String... parts) {
        return Check.told(String.join("", parts));
    }

    private static void log(PaidFaces x, int what, int... due) {
        for (int d = 0; d < due.length; d++) {
            Check.due("log(" + d + ", " + what + ")", x.log(d, what), due[d]);
        }
    }

    // ---- PIECES and what they cost

    private static void piecesOfWho() {
        Check.says("A PIECE is a FEATURE of a SITTER who WANTS it: PAID so much, so many STROKES done, LAPSED or not;");
        PaidFaces x = told("feature f 5 3;sitter s 9 2;sitter t 9 0;wants t f 1;wants s f 50;");
        x.days(3);
        int[][] due = {{1, 0, 1, 0, 0}, {0, 0, 50, 5, 1}};
        for (int p = 0; p < 2; p++) {
            for (int what = 0; what < 5; what++) {
                Check.due("piece(" + p + ", " + what + ")", x.piece(p, what), due[p][what]);
            }
        }
        Check.due("LAPSED", x.piece(0, 6), 3);
        Check.due("not LAPSED", x.piece(1, 6), 1);
        Check.due("one who WANTS none has none", told("feature f 5 3;sitter s 9 2;").count(2), 0);
    }

    private static void doneThenOwned() {
        Check.says("DONE with all STROKES; then it is OWNED.");
        for (int strokes : new int[] {1, 2, 9}) {
            PaidFaces x = told("feature f 1 " + strokes + ";sitter s 9 1;wants s f 99;");
            x.days(strokes - 1);
            Check.due("one less", x.piece(0, 6) == 2, false);
            Check.due("not OWNED", x.piece(0, 7), -1);
            Check.due("not OWNED", Check.look(x, 0, 3), 0);
            x.days(1);
            Check.due("all", x.piece(0, 4), strokes);
            Check.due("DONE", x.piece(0, 6), 2);
            Check.due("OWNED", x.piece(0, 7), 0);
            Check.due("OWNED", Check.look(x, 0, 3), 1);
            x.days(5);
            Check.due("none more", x.piece(0, 4), strokes);
        }
    }

    private static int priceBy(String law) {
        return told("feature f 40 1;sitter s 0 0;wants s f 9;", law).piece(0, 5);
    }

    private static void price() {
        Check.says("PRICE of a PIECE: price's E (put to 1 .. 999; BASE without, with an ERROR).");
        String[] terms = {"0", "1", "2", "998", "999", "1000", "9999", "0-1", "1/0", "9999*9999*9999*9999", MUCH + "+7", "0-" + MUCH + "+7",
            "1000*1000*1000*1000", "0-1000*1000*1000*1000", "1000*1000*1000*1000+1"};
        int[] due = {1, 1, 2, 998, 999, 999, 999, 1, 40, 40, 999, 1, 999, 1, 40};
        for (int k = 0; k < terms.length; k++) {
            Check.due("PRICE by " + terms[k], priceBy("law price " + terms[k] + ";"), due[k]);
        }
        Check.due("PRICE without", priceBy(""), 40);
        Check.due("PRICE without price, with others", priceBy("law pick 7;law bid 8;"), 40);
        PaidFaces x = told("feature f 40 1;sitter s 0 0;wants s f 9;law price 30/(2-day);");
        for (int want : new int[] {15, 30, 40, 1}) {
            Check.due("PRICE on " + x.count(5), x.piece(0, 5), want);
            x.days(1);
        }
    }

    private static void paidUp() {
        Check.says("It is PAID UP, if PAID is PRICE at least, as it is then.");
        PaidFaces x = told("feature f 5 9;sitter s 99 4;wants s f 99;hail 0 1 2;");
        x.days(1);
        Check.due("4 of 5", x.piece(0, 6), 0);
        x.days(1);
        Check.due("5 of 5", x.piece(0, 6), 1);
        x = told("feature f 5 9;sitter s 99 1;wants s f 99;hail 0 1 2 3 4 5 6;law price 4-day;");
        int[] standing = {0, 0, 1, 1, 1};
        for (int d = 0; d < 5; d++) {
            Check.due("with a PRICE that sinks, on " + d, x.piece(0, 6), standing[d]);
            x.days(1);
        }
        Check.due("PAID", x.piece(0, 3), 2);
        x = told("feature f 5 9;sitter s 99 5;wants s f 99;hail 0 1 2 3 4 5 6;law price 5*(1+day/2);");
        int[] rising = {0, 1, 0, 1, 0};
        for (int d = 0; d < 5; d++) {
            Check.due("with a PRICE that rises, on " + d, x.piece(0, 6), rising[d]);
            x.days(1);
        }
    }

    // ---- a DAY

    private static void noMoreBehind99() {
        Check.says("A DAY (no more behind 99):");
        PaidFaces x = told("feature f 99 1;sitter s 999 1;wants s f 99;");
        Check.due("DAY 99", x.days(99), 99);
        Check.due("PAID 99", x.piece(0, 3), 99);
        Check.due("days(1)", x.days(1), 100);
        Check.due("days(1)", x.days(1), -1);
        Check.due("days(0)", x.days(0), 100);
        Check.due("DAY 100", x.count(5), 100);
        x = told("feature f 99 1;feature g 99 1;sitter s 999 1;sitter t 0 0;wants s f 99;wants t g 99;hail 98;");
        Check.due("all of them", x.days(100), 100);
        Check.due("coin of DAY 99", x.log(99, 0), 0);
        Check.due("painted on DAY 99", x.log(99, 1), 0);
        Check.due("LAPSED on DAY 99", x.log(99, 2), 1);
        Check.due("no DAY 100", x.log(100, 0), -1);
    }

    private static void payersByNumbers() {
        Check.says("1 PAY: SITTERS that live, by numbers:");
        // a: 3 of b and 3 of a; then b: 4 of a and 1 of b. The other way round it would be 3 and 8.
        String text = "feature f 9 1;sitter a 9 6;sitter b 4 9;wants b f 9;wants a f 9;twin b a;";
        PaidFaces x = told(text);
        x.days(1);
        Check.due("PAID for a", x.piece(1, 3), 6);
        Check.due("PAID for b", x.piece(0, 3), 5);
        Check.due("a's purse", Check.look(x, 0, 0), 2);
        Check.due("b's purse", Check.look(x, 1, 0), 0);
        // For one who is dead nobody pays, the twin neither.
        x = told(text);
        x.dies(1);
        x.days(1);
        Check.due("PAID for the dead", x.piece(0, 3), 0);
        Check.due("PAID by a alone", x.piece(1, 3), 6);
        Check.due("a's purse", Check.look(x, 0, 0), 3);
        x = told(text, "heir a b;");
        x.dies(0);
        x.days(2);
        Check.due("the heir doesn't pay for the dead", x.piece(1, 3), 0);
        Check.due("b's own", x.piece(0, 3), 9);
    }

    private static void firstOfTheirs() {
        Check.says("for the first of their PIECES (as told) that is neither LAPSED nor DONE nor PAID UP:");
        PaidFaces x = told("feature f 4 1;feature g 4 1;feature h 4 1;sitter s 99 2;sitter t 99 3;"
            + "wants s h 99;wants t g 99;wants s f 99;wants t f 99;hail 0 1 2 3 4 5 6;");
        int[][] paid = {{2, 3, 0, 0}, {4, 4, 0, 0}, {4, 4, 2, 3}, {4, 4, 4, 4}, {4, 4, 4, 4}};
        for (int[] row : paid) {
            x.days(1);
            for (int p = 0; p < 4; p++) {
                Check.due("PAID for " + p + " on " + x.count(5), x.piece(p, 3), row[p]);
            }
        }
        log(x, 0, 5, 3, 5, 3, 0);
        // LAPSED with more to pay; DONE with more to pay.
        x = told("feature f 9 1;feature g 9 1;sitter s 99 2;wants s f 0;wants s g 99;");
        x.days(3);
        Check.due("LAPSED", x.piece(0, 3), 2);
        Check.due("the next", x.piece(1, 3), 4);
        x = told("feature f 9 1;feature g 9 1;sitter s 99 2;wants s f 99;wants s g 99;");
        x.days(1);
        x.forge(0);
        x.days(1);
        Check.due("DONE", x.piece(0, 3), 2);
        Check.due("the next", x.piece(1, 3), 2);
        // PAID UP once and no more: it is the first again.
        x = told("feature f 9 1;feature g 9 1;sitter s 99 2;wants s f 99;wants s g 99;law price 2+day/2*2;hail 0 1 2 3;");
        x.days(3);
        Check.due("first again", x.piece(0, 3), 4);
        Check.due("the next between", x.piece(1, 3), 2);
    }

    private static void rate() {
        Check.says("RATE, at most what is left of PRICE;");
        PaidFaces x = told("feature f 10 9;sitter s 99 4;wants s f 99;");
        x.days(4);
        log(x, 0, 4, 4, 2, 0);
        x = told("feature f 10 9;sitter s 99 10;wants s f 99;");
        x.days(2);
        log(x, 0, 10, 0);
        x = told("feature f 10 9;sitter s 99 11;wants s f 99;");
        x.days(2);
        log(x, 0, 10, 0);
        x = told("feature f 1 9;sitter s 99 0;wants s f 99;");
        x.days(2);
        log(x, 0, 0, 0);
        // PRICE as it is then: of 999 at most 99 a DAY, and of one that sinks under what is PAID nothing.
        x = told("feature f 1 9;sitter s 999 99;wants s f 99;law price 9999-day/2*9999;");
        x.days(4);
        log(x, 0, 99, 99, 0, 0);
    }

    private static void twinsHalf() {
        Check.says("a twin that lives pays half of it (cut) out of their own purse, the SITTER the rest,");
        int[][] halves = {{0, 0, 0}, {1, 0, 1}, {2, 1, 1}, {3, 1, 2}, {5, 2, 3}, {99, 49, 50}};
        for (int[] row : halves) {
            PaidFaces x = told("feature f 99 1;sitter a 500 " + row[0] + ";sitter b 500 0;wants a f 99;twin b a;");
            x.days(1);
            Check.due("the twin, RATE " + row[0], 500 - Check.look(x, 1, 0), row[1]);
            Check.due("the SITTER, RATE " + row[0], 500 - Check.look(x, 0, 0), row[2]);
            Check.due("PAID", x.piece(0, 3), row[0]);
        }
        // Half of what is left of PRICE, not of RATE.
        PaidFaces x = told("feature f 3 1;sitter a 500 99;sitter b 500 0;wants a f 99;twin a b;");
        x.days(1);
        Check.due("the twin", Check.look(x, 1, 0), 499);
        Check.due("the SITTER", Check.look(x, 0, 0), 498);
        // One that is dead pays nothing, and the SITTER all; so with none.
        x = told("feature f 9 1;sitter a 500 9;sitter b 500 0;sitter c 9 0;wants a f 99;twin a b;heir b c;");
        x.dies(1);
        x.days(1);
        Check.due("the SITTER", Check.look(x, 0, 0), 491);
        Check.due("the twin's heir", Check.look(x, 2, 0), 509);
        x = told("feature f 9 1;sitter a 500 9;sitter b 500 0;wants a f 99;kin a b f;heir a b;");
        x.days(1);
        Check.due("kin and heir aren't twins", Check.look(x, 0, 0), 491);
    }

    private static void whatIsInThePurse() {
        Check.says("each at most what is in the purse;");
        int[][] rows = {{0, 0, 0}, {0, 9, 4}, {9, 0, 5}, {4, 4, 8}, {5, 4, 9}, {5, 3, 8}, {6, 5, 9}};
        for (int[] row : rows) {
            PaidFaces x = told("feature f 99 1;sitter a " + row[0] + " 9;sitter b " + row[1] + " 0;wants a f 99;twin a b;");
            x.days(1);
            Check.due("PAID of " + row[0] + " and " + row[1], x.piece(0, 3), row[2]);
            Check.due("all purses", x.count(10), row[0] + row[1] - row[2]);
            Check.due("none is below 0", Check.look(x, 0, 0) >= 0 && Check.look(x, 1, 0) >= 0, true);
        }
        for (int purse : new int[] {0, 8, 9, 10}) {
            PaidFaces x = told("feature f 99 1;sitter a " + purse + " 9;wants a f 99;");
            x.days(1);
            Check.due("PAID of " + purse, x.piece(0, 3), Math.min(purse, 9));
        }
    }

    private static void toThePainter() {
        Check.says("all goes to the PAINTER.");
        PaidFaces x = told("feature f 9 1;sitter a 20 9;sitter b 2 7;wants a f 0;wants b f 99;twin a b;");
        x.days(1);
        Check.due("5 and 2 for a, of b's 0 0 and 3 of a", x.count(9), 10);
        Check.due("log", x.log(0, 0), 10);
        Check.due("all purses", x.count(10), 12);
        x.days(9);
        Check.due("with all purses it is as much", x.count(9) + x.count(10), 22);
        Check.due("PAID in all", x.piece(0, 3) + x.piece(1, 3), x.count(9));
    }

    private static void hail() {
        Check.says("2 SIT, unless there is HAIL:");
        PaidFaces x = told("feature f 1 9;feature g 9 1;sitter s 99 1;sitter t 99 0;wants s f 99;wants t g 1;hail 0 1 3 99;");
        x.days(100);
        log(x, 1, -1, -1, 0, -1, 0, 0);
        log(x, 0, 1, 0);
        Check.due("LAPSED in HAIL", x.log(1, 2), 1);
        x = told("feature f 98 9;sitter s 99 1;wants s f 99;hail 99;");
        x.days(100);
        Check.due("before it", x.log(98, 1), 0);
        Check.due("HAIL on 99", x.log(99, 1), -1);
    }

    private static void whoSits() {
        Check.says("of PIECES (as told) that are PAID UP, not LAPSED, not DONE, of a SITTER that lives,");
        String text = "feature f 2 1;feature g 2 2;sitter s 9 2;sitter t 9 1;wants s f 99;wants t g 99;";
        PaidFaces x = told(text);
        x.days(5);
        log(x, 1, 0, 1, 1, -1, -1);
        x = told(text);
        x.dies(0);
        x.days(4);
        log(x, 1, -1, 1, 1, -1);
        x = told(text, "hail 0 1 2;");
        x.days(3);
        Check.due("both are PAID UP", x.piece(0, 6) * 10 + x.piece(1, 6), 11);
        x.dies(0);
        x.dies(1);
        x.days(2);
        Check.due("of the dead none", x.log(3, 1), -1);
        Check.due("of the dead none", x.log(4, 1), -1);
        // LAPSED, and PAID UP by a PRICE that sinks.
        x = told("feature f 9 1;sitter s 9 2;wants s f 0;law price 5-day;");
        x.days(6);
        log(x, 1, -1, -1, -1, -1, -1, -1);
        Check.due("LAPSED still", x.piece(0, 6), 3);
        Check.due("PAID is PRICE at least", x.piece(0, 3) >= x.piece(0, 5), true);
        // Not PAID UP any more.
        x = told("feature f 9 9;sitter s 4 9;wants s f 99;law price 4+(day=1);");
        x.days(3);
        log(x, 1, 0, -1, 0);
    }

    private static void picked(String law, int want) {
        PaidFaces x = told("feature f 1 2;feature g 1 3;feature h 1 4;sitter s 9 1;sitter t 9 1;sitter u 9 1;"
            + "wants s f 99;wants t g 99;wants u h 99;", law);
        x.days(1);
        Check.due("painted by " + law, x.log(0, 1), want);
        Check.due("one STROKE more", x.piece(0, 4) + x.piece(1, 4) + x.piece(2, 4), want < 0 ? 0 : 1);
    }

    private static void greatestPick() {
        Check.says("that with the greatest E of pick above 0 (1 without, 0 with an ERROR; the first of several) has one STROKE more;");
        picked("", 0);
        picked("law pick left;", 2);
        picked("law pick 9-left;", 0);
        picked("law pick 5-(left-3)*(left-3);", 1);
        picked("law pick (left>2)*7;", 1);
        picked("law pick 1;", 0);
        picked("law pick 0;", -1);
        picked("law pick 0-left;", -1);
        picked("law pick left-3;", 2);
        picked("law pick left-4;", -1);
        picked("law pick 1/0;", -1);
        picked("law pick 6/(left-2);", 1);
        picked("law pick 6/(left-3);", 2);
        picked("law pick (left=4)*1000*1000*1000*1000+1;", 0);
        picked("law pick (left=4)*1000*1000*1000*1000;", 2);
        // Values beyond an int.
        picked("law pick 5+(left=3)*" + MUCH + ";", 1);
        picked("law pick 1+(left-2)*128*256*256*256;", 2);
        picked("law pick 0-" + MUCH + "+1;", -1);
        // What is PAID UP alone is looked at: the greatest isn't.
        PaidFaces x = told("feature f 1 1;feature g 2 9;sitter s 9 1;sitter t 9 1;wants s f 99;wants t g 99;law pick left;");
        x.days(3);
        log(x, 1, 0, 1, 1);
    }

    private static void ownedByItsSitter() {
        Check.says("if it is DONE by that, its SITTER OWNS it.");
        PaidFaces x = told("feature f 1 2;sitter a 9 0;sitter s 9 1;sitter t 9 1;wants t f 99;wants s f 99;twin a t;heir t s;kin a t f;");
        x.days(1);
        Check.due("not DONE by one", x.owner(0, 0), -2);
        x.days(1);
        Check.due("DONE by the other", x.piece(0, 7), 2);
        Check.due("the first OWNER", x.owner(0, 0), 2);
        Check.due("OWNED by t", Check.look(x, 2, 3), 1);
        x.days(2);
        Check.due("s OWNS the other", x.piece(1, 7), 1);
        // One that a forger began.
        x = told("feature f 1 2;sitter s 9 1;wants s f 99;");
        x.forge(0);
        x.days(1);
        Check.due("DONE", x.piece(0, 7), 0);
    }

    private static void lapse() {
        Check.says("3 LAPSE: a PIECE whose DAY it is and which isn't PAID UP, not DONE, is LAPSED: its STROKES are wiped.");
        PaidFaces x = told("feature f 3 9;sitter s 9 1;wants s f 1;");
        x.forge(0);
        x.forge(0);
        x.days(1);
        Check.due("the DAY ahead of it", x.piece(0, 6), 0);
        Check.due("STROKES", x.piece(0, 4), 2);
        x.days(1);
        Check.due("its DAY", x.piece(0, 6), 3);
        Check.due("wiped", x.piece(0, 4), 0);
        Check.due("PAID stays", x.piece(0, 3), 2);
        log(x, 2, 0, 1);
        x.days(3);
        log(x, 2, 0, 1, 0, 0, 0);
        // PAID UP by that DAY's PAY; DONE by that DAY's SIT; PAID UP alone is enough in HAIL.
        x = told("feature f 3 9;feature g 3 1;sitter s 9 1;sitter t 9 1;wants s f 2;wants t g 2;law pick 9-left;");
        x.days(3);
        Check.due("PAID UP", x.piece(0, 6), 1);
        Check.due("DONE", x.piece(1, 6), 2);
        log(x, 2, 0, 0, 0);
        x = told("feature f 1 9;sitter s 9 1;wants s f 0;hail 0;");
        x.days(1);
        Check.due("PAID UP in HAIL", x.piece(0, 6), 1);
        // DONE, though nothing is PAID; one that isn't, beside it; one of the dead.
        x = told("feature f 3 1;feature g 3 2;sitter s 9 0;sitter t 9 0;wants s f 0;wants s g 0;wants t g 0;wants t f 99;");
        x.forge(0);
        x.forge(1);
        x.dies(1);
        x.days(1);
        Check.due("DONE", x.piece(0, 6), 2);
        Check.due("STROKES of it", x.piece(0, 4), 1);
        Check.due("not DONE", x.piece(1, 6), 3);
        Check.due("of the dead", x.piece(2, 6), 3);
        Check.due("not its DAY", x.piece(3, 6), 0);
        log(x, 2, 2);
        // PAID UP ahead of SIT, but not behind it, as PRICE is then.
        x = told("feature f 1 1;feature g 1 1;sitter s 9 1;wants s f 99;wants s g 1;law price 1+owned*50;hail 0;");
        x.days(2);
        Check.due("DONE by SIT", x.piece(0, 6), 2);
        Check.due("PRICE then", x.piece(1, 5), 51);
        Check.due("LAPSED", x.piece(1, 6), 3);
        // Not PAID UP ahead of SIT, but behind it.
        x = told("feature f 1 1;feature g 50 1;sitter s 9 1;wants s f 99;wants s g 1;law price 1+(owned=0)*(base-1);hail 0;");
        x.days(2);
        Check.due("DONE by SIT", x.piece(0, 6), 2);
        Check.due("PAID", x.piece(1, 3), 1);
        Check.due("PAID UP behind SIT", x.piece(1, 6), 1);
        log(x, 2, 0, 0);
        // A DAY that has gone by isn't its DAY: PAID UP on it, and not later.
        x = told("feature f 1 9;sitter s 1 1;wants s f 0;law price 1+(day>0);");
        x.days(3);
        Check.due("open behind its DAY", x.piece(0, 6), 0);
    }

    // ---- what an E is worth

    private static void names() {
        Check.says("NAMES, of a PIECE: base; left: STROKES left; purse: of its SITTER (of bid: of who bids); owned: how many PIECES that "
            + "one OWNS; day; till: its DAY less the DAY now (0 at least); paid.");
        String text = "feature f 40 3;feature g 7 1;sitter s 90 5;sitter t 30 2;sitter u 0 0;wants s f 3;wants t g 2;wants t f 50;";
        String[] names = {"base", "left", "purse", "owned", "day", "till", "paid"};
        // At first; after a forger's STROKE on 0 and one that does 1; after 2 DAYS; of SITTER t as who bids.
        int[][] due = {{40, 3, 90, 0, 0, 3, 0}, {40, 2, 90, 0, 0, 3, 0}, {40, 2, 80, 0, 2, 1, 10}};
        for (int k = 0; k < names.length; k++) {
            PaidFaces x = told(text, "law price " + names[k] + ";law pick " + names[k] + ";law bid " + names[k] + ";");
            Check.due(names[k], x.law(0, 0, 0), due[0][k]);
            x.forge(0);
            x.forge(1);
            Check.due(names[k], x.law(0, 0, 0), due[1][k]);
        }
        PaidFaces x = told(text, "law pick base*1000+left*100+owned*10+till;law bid purse*10+owned;law price 60+paid+day*0;");
        x.forge(0);
        x.forge(1);
        x.days(2);
        Check.due("pick of 0", x.law(1, 0, 0), 40201);
        Check.due("pick of 1, DONE", x.law(1, 1, 0), 7010);
        Check.due("pick of 2", x.law(1, 2, 0), 40358);
        Check.due("bid of s", x.law(2, 1, 0), 800);
        Check.due("bid of t, who OWNS one", x.law(2, 0, 1), 261);
        Check.due("bid of u", x.law(2, 0, 2), 0);
        Check.due("paid of 0", x.law(0, 0, 0), 70);
        Check.due("paid of 1", x.law(0, 1, 0), 60);
        x.days(1);
        Check.due("till on its DAY", x.law(1, 0, 0), 40200);
        x.days(1);
        Check.due("till behind its DAY, LAPSED: all STROKES left", x.law(1, 0, 0), 40300);
        Check.due("till of 1", x.law(1, 1, 0), 7010);
        x.days(96);
        Check.due("till on 100", x.law(1, 2, 0), 40310);
        x = told("feature f 99 9;sitter s 999 99;wants s f 99;law pick day;law price till;law bid paid;");
        Check.due("day", x.law(1, 0, 0), 0);
        Check.due("till", x.law(0, 0, 0), 99);
        x.days(100);
        Check.due("day", x.law(1, 0, 0), 100);
        Check.due("till", x.law(0, 0, 0), 0);
        Check.due("paid", x.law(2, 0, 0), 99);
    }

    private static long worth(String e) {
        return told("feature f 40 2;sitter s 100 10;wants s f 7;law bid ", e, ";").law(2, 0, 0);
    }

    private static void longs() {
        Check.says("VALUES are longs;");
        Check.due("2^31", worth("128*256*256*256"), 1L << 31);
        Check.due("-2^31-1", worth("0-128*256*256*256-1"), -(1L << 31) - 1);
        Check.due("2^32", worth(MUCH), 1L << 32);
        Check.due("2^32/2^31", worth(MUCH + "/(128*256*256*256)"), 2);
        Check.due("2^32+1>2^32", worth(MUCH + "+1>" + MUCH), 1);
        Check.due("2^32=0", worth(MUCH + "=0"), 0);
        Check.due("2^32 and 1", worth(MUCH + " and 1"), 1);
        Check.due("2^32 or 0", worth(MUCH + " or 0"), 1);
        Check.due("not 2^32", worth("not " + MUCH), 0);
    }

    private static void truths() {
        Check.says("comparisons, and, or, not are 1 or 0 (what isn't 0 is as 1, both sides are worked out),");
        String[] sides = {"0", "1", "7", "(0-1)", "(0-7)", "9999"};
        long[] values = {0, 1, 7, -1, -7, 9999};
        for (int a = 0; a < sides.length; a++) {
            for (int b = 0; b < sides.length; b++) {
                long x = values[a];
                long y = values[b];
                Check.due(x + "<" + y, worth(sides[a] + "<" + sides[b]), x < y ? 1 : 0);
                Check.due(x + "<=" + y, worth(sides[a] + "<=" + sides[b]), x <= y ? 1 : 0);
                Check.due(x + "=" + y, worth(sides[a] + "=" + sides[b]), x == y ? 1 : 0);
                Check.due(x + "<>" + y, worth(sides[a] + "<>" + sides[b]), x != y ? 1 : 0);
                Check.due(x + ">=" + y, worth(sides[a] + ">=" + sides[b]), x >= y ? 1 : 0);
                Check.due(x + ">" + y, worth(sides[a] + ">" + sides[b]), x > y ? 1 : 0);
                Check.due(x + " and " + y, worth(sides[a] + " and " + sides[b]), x != 0 && y != 0 ? 1 : 0);
                Check.due(x + " or " + y, worth(sides[a] + " or " + sides[b]), x != 0 || y != 0 ? 1 : 0);
            }
            Check.due("not " + values[a], worth("not " + sides[a]), values[a] == 0 ? 1 : 0);
            Check.due("not not " + values[a], worth("not not " + sides[a]), values[a] == 0 ? 0 : 1);
        }
        for (String e : new String[] {"1 or 1/0", "1/0 or 1", "0 and 1/0", "1/0 and 0", "not (1/0)", "1/0=1/0", "1<1/0", "1/0<>0", "0*(1/0)"}) {
            Check.due(e, worth(e), Long.MIN_VALUE);
        }
        // How they bind.
        Check.due("1 or 0 and 0", worth("1 or 0 and 0"), 1);
        Check.due("(1 or 0) and 0", worth("(1 or 0) and 0"), 0);
        Check.due("not 0 and 0", worth("not 0 and 0"), 0);
        Check.due("not 0 or 1", worth("not 1 or 1"), 1);
        Check.due("not 3=3", worth("not 3=3"), 0);
        Check.due("not 3=4 and 2", worth("not 3=4 and 2"), 1);
        Check.due("2+3*4-1", worth("2+3*4-1"), 13);
        Check.due("20-5-4", worth("20-5-4"), 11);
        Check.due("20-(5-4)", worth("20-(5-4)"), 19);
        Check.due("7*5/2*2", worth("7*5/2*2"), 34);
        Check.due("1+2=4-1", worth("1+2=4-1"), 1);
    }

    private static void cut() {
        Check.says("/ is cut towards 0;");
        Check.due("7/2", worth("7/2"), 3);
        Check.due("-7/2", worth("(0-7)/2"), -3);
        Check.due("7/-2", worth("7/(0-2)"), -3);
        Check.due("-7/-2", worth("(0-7)/(0-2)"), 3);
        Check.due("1/2", worth("1/2"), 0);
        Check.due("-1/2", worth("(0-1)/2"), 0);
        Check.due("6/-2", worth("6/(0-2)"), -3);
        Check.due("-10^12/-1", worth("(0-1000*1000*1000*1000)/(0-1)"), 1_000_000_000_000L);
    }

    private static void errors() {
        Check.says("ERROR: / by 0, a value above 10 to the 12 or below 0 by more than that.");
        String most = "1000*1000*1000*1000";
        for (String e : new String[] {"1/0", "0/0", "(0-1)/0", "1/(1-1)", "1/day", "1/(base-40)", most + "+1", "1+" + most, "0-" + most + "-1",
            "0-1-" + most, most + "*2", "(0-" + most + ")*2", "2*(0-" + most + ")", "1001*1000*1000*1000", most + "+1-1", "(0-" + most + "-1)*0",
            "(9999*9999*9999)*(9999*9999*9999)", "(0-9999*9999*9999)*(9999*9999*9999)", "(0-9999*9999*9999)*(0-9999*9999*9999)",
            "(" + MUCH + ")*(" + MUCH + ")", "(" + MUCH + ")*(128*256*256*256)", "(" + MUCH + ")*(0-128*256*256*256)", "(1/0)+1"}) {
            Check.due(e, worth(e), Long.MIN_VALUE);
        }
        Check.due("10^12", worth(most), 1_000_000_000_000L);
        Check.due("10^12-1+1", worth(most + "-1+1"), 1_000_000_000_000L);
        Check.due("-10^12", worth("0-" + most), -1_000_000_000_000L);
        Check.due("-10^12+0", worth("0-" + most + "+0"), -1_000_000_000_000L);
        Check.due("-10^12*1", worth("(0-" + most + ")*1"), -1_000_000_000_000L);
        Check.due("10^12*-1", worth(most + "*(0-1)"), -1_000_000_000_000L);
        Check.due("10^12*0", worth(most + "*0"), 0);
        Check.due("0*10^12", worth("0*(" + most + ")"), 0);
        Check.due("0/5", worth("0/5"), 0);
        Check.due("10^12-10^12", worth(most + "-" + most), 0);
    }

    // ---- LOOK

    private static void lookOfOwn() {
        Check.says("LOOK of a SITTER: FEATURES of which the own PIECE is DONE (OWNED by anybody),");
        PaidFaces x = told("feature f 9 2;feature g 9 1;sitter s 50 0;sitter t 60 0;sitter u 0 0;wants s f 99;wants s g 99;wants t g 99;");
        Check.due("none DONE", Check.look(x, 0, 2), 0);
        x.forge(0);
        Check.due("not all STROKES", Check.look(x, 0, 2), 0);
        x.forge(0);
        Check.due("f", Check.look(x, 0, 2), 1);
        x.forge(1);
        Check.due("f and g", Check.look(x, 0, 2), 3);
        Check.due("another's isn't the own", Check.look(x, 1, 2), 0);
        Check.due("sold", x.sell(0), 1);
        Check.due("OWNED by another", Check.look(x, 0, 2), 3);
        Check.due("OWNED by t isn't the own of t", Check.look(x, 1, 2), 0);
        x.dies(1);
        Check.due("LEFT OVER", x.piece(0, 7), -2);
        Check.due("DONE still", Check.look(x, 0, 2), 3);
        x.dies(0);
        Check.due("of the dead", Check.look(x, 0, 2), 3);
        Check.due("of one who wants none", Check.look(x, 2, 2), 0);
    }

    private static void lookOfKin() {
        Check.says("or that of KIN who share it.");
        PaidFaces x = told("feature f 9 1;feature g 9 1;feature h 9 1;sitter a 0 0;sitter b 0 0;sitter c 0 0;sitter d 0 0;"
            + "wants a f 99;wants a g 99;wants d h 99;kin a b f;kin b c f;kin c a g;");
        Check.due("not DONE", Check.look(x, 1, 2), 0);
        x.forge(0);
        x.forge(1);
        x.forge(2);
        Check.due("a", Check.look(x, 0, 2), 3);
        Check.due("b shares f, not g", Check.look(x, 1, 2), 1);
        Check.due("c shares g with a, f with b alone", Check.look(x, 2, 2), 2);
        Check.due("d shares none", Check.look(x, 3, 2), 4);
        x.dies(0);
        Check.due("that of dead KIN", Check.look(x, 1, 2), 1);
        // The first and the second of KIN, whichever of them wants it, and none between.
        x = told("feature f 9 1;feature g 9 1;sitter a 0 0;sitter b 0 0;sitter c 0 0;wants c f 99;wants b g 99;kin b c f;kin b c g;");
        x.forge(0);
        x.forge(1);
        int[] faces = {0, 3, 3};
        for (int s = 0; s < 3; s++) {
            Check.due("LOOK of " + s, Check.look(x, s, 2), faces[s]);
        }
        x = told("feature f 9 1;sitter a 0 0;sitter b 0 0;wants a f 99;twin a b;heir a b;");
        x.forge(0);
        Check.due("twins and heirs share none", Check.look(x, 1, 2), 0);
    }
}
