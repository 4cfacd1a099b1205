/** Promises 9, 10 and 25: days, log, tried, and what a DAY is. */
public final class DaysTest {
    public static void main(String[] args) {
        numbers();
        paying();
        twins();
        sitting();
        lapsing();
        changingPrice();
        tried();
        triedTwins();
        Check.end();
    }

    private static void numbers() {
        PaidFaces x = Check.told("sitter s 1 1;");
        Check.due("days(0)", x.days(0), 0);
        Check.due("days(-1)", x.days(-1), -1);
        Check.due("days(101)", x.days(101), -1);
        Check.due("days(100)", x.days(100), 100);
        Check.due("days(1) behind 100", x.days(1), -1);
        Check.due("days(0) on 100", x.days(0), 100);
        Check.due("log(99, 1)", x.log(99, 1), -1);
        Check.due("log(99, 0)", x.log(99, 0), 0);
        Check.due("log(100, 0)", x.log(100, 0), -1);
        Check.due("log(-1, 0)", x.log(-1, 0), -1);
        Check.due("log(5, 3)", x.log(5, 3), -1);
        Check.due("log(5, -1)", x.log(5, -1), -1);
        Check.due("tried on 100", x.tried(0, 0, 100), 0);
        x = Check.told("sitter s 1 1;");
        x.days(60);
        Check.due("days(41)", x.days(41), -1);
        Check.due("none went by", x.count(5), 60);
        Check.due("days(40)", x.days(40), 100);
        // The last day, 99, is lived through: its PIECE lapses on it.
        x = Check.told("feature f 9 1;sitter s 9 0;wants s f 99;");
        x.days(99);
        Check.due("open on 99", x.piece(0, 6), 0);
        x.days(1);
        Check.due("lapsed behind 99", x.piece(0, 6), 3);
        Check.due("log(99, 2)", x.log(99, 2), 1);
    }

    private static void paying() {
        PaidFaces x = Check.told("feature f 10 1;feature g 5 1;sitter s 16 4;wants s f 9;wants s g 8;hail 0 1 2 3 4 5 6;");
        int[] coin = {4, 4, 2, 4, 1, 0, 0};
        x.days(7);
        for (int d = 0; d < coin.length; d++) {
            Check.due("log(" + d + ", 0)", x.log(d, 0), coin[d]);
        }
        Check.due("PAID f", x.piece(0, 3), 10);
        Check.due("PAID g", x.piece(1, 3), 5);
        Check.due("purse", Check.look(x, 0, 0), 1);
        Check.due("painter", x.count(9), 15);
        // One who is dead pays nothing.
        x = Check.told("feature f 10 1;sitter s 16 4;sitter t 5 5;wants s f 9;wants t f 9;");
        x.dies(0);
        x.days(1);
        Check.due("PAID by the dead", x.piece(0, 3), 0);
        Check.due("PAID by the living", x.piece(1, 3), 5);
        Check.due("painter: purse of the dead and 5", x.count(9), 21);
        // At most what is in the purse.
        x.days(1);
        Check.due("empty purse", x.log(1, 0), 0);
        // The first as told, not by features, and none behind LAPSED or DONE ones is forgotten.
        x = Check.told("feature f 2 1;feature g 2 1;sitter s 9 2;wants s g 5;wants s f 0;");
        x.days(1);
        Check.due("PAID g first", x.piece(0, 3), 2);
        Check.due("f lapsed on 0", x.piece(1, 6), 3);
        Check.due("STROKE of g", x.log(0, 1), 0);
        x.days(1);
        Check.due("LAPSED isn't paid", x.log(1, 0), 0);
    }

    private static void twins() {
        PaidFaces x = Check.told("feature f 9 1;sitter a 9 5;sitter b 9 0;wants a f 9;twin b a;");
        x.days(1);
        Check.due("a pays the rest", Check.look(x, 0, 0), 6);
        Check.due("b pays half, cut", Check.look(x, 1, 0), 7);
        Check.due("PAID", x.piece(0, 3), 5);
        Check.due("log", x.log(0, 0), 5);
        x.days(1);
        Check.due("PAID, 4 were left", x.piece(0, 3), 9);
        Check.due("a", Check.look(x, 0, 0), 4);
        Check.due("b", Check.look(x, 1, 0), 5);
        x = Check.told("feature f 9 1;sitter a 9 5;sitter b 9 0;wants a f 9;twin b a;");
        x.dies(1);
        x.days(1);
        Check.due("a dead twin pays nothing", Check.look(x, 0, 0), 4);
        x = Check.told("feature f 9 1;sitter a 1 6;sitter b 2 0;wants a f 9;twin b a;");
        x.days(1);
        Check.due("each what is there", x.piece(0, 3), 3);
        // A twin's half is out of the purse before the twin pays for the own PIECE.
        x = Check.told("feature f 9 1;sitter a 9 6;sitter b 4 9;wants a f 9;wants b f 9;twin b a;");
        x.days(1);
        Check.due("a's PIECE", x.piece(0, 3), 6);
        Check.due("b's PIECE: 1 of b, 4 of a", x.piece(1, 3), 5);
    }

    private static void sitting() {
        String text = "feature f 1 2;feature g 1 1;sitter s 9 1;sitter t 9 1;wants s f 9;wants t g 9;wants t f 9;hail 0 3;";
        PaidFaces x = Check.told(text);
        x.days(5);
        int[] stroke = {-1, 0, 0, -1, 1};
        for (int d = 0; d < 5; d++) {
            Check.due("log(" + d + ", 1)", x.log(d, 1), stroke[d]);
        }
        x = Check.told(text + "law pick 3-left;");
        x.days(5);
        int[] picked = {-1, 1, 0, -1, 0};
        for (int d = 0; d < 5; d++) {
            Check.due("pick log(" + d + ", 1)", x.log(d, 1), picked[d]);
        }
        x = Check.told(text + "law pick 0;");
        x.days(5);
        Check.due("pick not above 0", x.log(2, 1), -1);
        Check.due("pick not above 0", x.count(11), 0);
        x = Check.told(text + "law pick 1-left;");
        x.days(5);
        Check.due("pick below 0 or 0", x.count(11), 0);
        x = Check.told(text + "law pick 1/(left-2);");
        x.days(2);
        Check.due("an ERROR is as 0; f's left is 2; g's is -1", x.log(1, 1), -1);
        x = Check.told(text);
        x.dies(0);
        x.days(5);
        Check.due("not of the dead", x.log(1, 1), 1);
        Check.due("not PAID UP isn't painted", Check.told("feature f 9 1;sitter s 9 1;wants s f 9;").count(11), 0);
        x = Check.told("feature f 3 1;sitter s 9 1;wants s f 9;");
        x.days(2);
        Check.due("not PAID UP isn't painted", x.log(1, 1), -1);
        x.days(1);
        Check.due("PAID UP by PAY is painted on that DAY", x.log(2, 1), 0);
        Check.due("OWNED by its SITTER", x.owner(0, 0), 0);
    }

    private static void lapsing() {
        PaidFaces x = Check.told("feature f 3 2;feature g 2 9;sitter s 9 1;sitter t 9 2;wants s f 1;wants t g 1;wants t f 1;");
        x.forge(0);
        Check.due("forged", x.forged(), 1);
        x.days(1);
        Check.due("none lapsed", x.log(0, 2), 0);
        x.days(1);
        Check.due("lapsed on 1", x.log(1, 2), 2);
        Check.due("f of s", x.piece(0, 6), 3);
        Check.due("its STROKES are wiped", x.piece(0, 4), 0);
        Check.due("a LAPSED one isn't FORGED", x.forged(), 0);
        Check.due("PAID stays", x.piece(0, 3), 2);
        Check.due("g of t PAID UP", x.piece(1, 6), 1);
        x.days(5);
        Check.due("painted behind its DAY", x.piece(1, 4), 7);
        Check.due("no forger", x.forge(0), -1);
        // Of one who is dead, too.
        x = Check.told("feature f 3 2;sitter s 9 1;wants s f 0;");
        x.dies(0);
        x.days(1);
        Check.due("of the dead", x.piece(0, 6), 3);
        // DONE, not PAID UP: it doesn't lapse.
        x = Check.told("feature f 9 1;sitter s 9 1;wants s f 0;");
        x.forge(0);
        x.days(1);
        Check.due("DONE doesn't lapse", x.piece(0, 6), 2);
        Check.due("DONE isn't paid", x.log(0, 0), 0);
    }

    private static void changingPrice() {
        // The price rises by each day; who was PAID UP isn't any more.
        PaidFaces x = Check.told("feature f 3 9;sitter s 99 1;wants s f 9;law price 1+day*2;");
        x.days(1);
        Check.due("PAID UP on 0, painted", x.log(0, 1), 0);
        Check.due("not PAID UP on 1", x.piece(0, 6), 0);
        Check.due("PRICE on 1", x.piece(0, 5), 3);
        x.days(1);
        Check.due("not painted on 1", x.log(1, 1), -1);
        // Half of the purse: what is left of it is worked out ahead of the pay.
        x = Check.told("feature f 3 9;sitter s 40 99;wants s f 9;law price purse/2;");
        x.days(1);
        Check.due("PAID", x.piece(0, 3), 20);
        Check.due("PRICE", x.piece(0, 5), 10);
    }

    private static void tried() {
        String text = "feature f 1 2;feature g 5 1;sitter s 9 1;sitter t 9 5;wants s f 0;wants t g 9;wants s g 9;hail 1 2 3;";
        PaidFaces x = Check.told(text);
        Check.due("as told, by no HAIL: f twice, g", x.tried(0, 0, 3), 2);
        Check.due("n 0", x.tried(0, 0, 0), 0);
        Check.due("1 SITTER 1 pays nothing", x.tried(1, 1, 10), 2);
        Check.due("1 SITTER 0 pays nothing: f lapses", x.tried(1, 0, 10), 1);
        Check.due("2 f isn't painted", x.tried(2, 0, 10), 2);
        Check.due("2 g isn't painted", x.tried(2, 1, 10), 1);
        Check.due("3", x.tried(3, 0, 5), 1);
        Check.due("3", x.tried(3, 0, 6), 2);
        Check.due("4", x.tried(4, 0, 5), 1);
        Check.due("4", x.tried(4, 0, 7), 3);
        int[][] none = {{0, 1, 3}, {3, -1, 3}, {4, 1, 3}, {1, 2, 3}, {1, -1, 3}, {2, 2, 3}, {2, -1, 3}, {5, 0, 3}, {-1, 0, 3},
            {0, 0, -1}, {0, 0, 101}};
        for (int[] row : none) {
            Check.due("tried(" + row[0] + ", " + row[1] + ", " + row[2] + ")", x.tried(row[0], row[1], row[2]), -1);
        }
        Check.due("no DAY went by", x.count(5), 0);
        Check.due("nothing is PAID", x.count(9), 0);
        Check.due("no log", x.log(0, 0), -1);
        x.days(99);
        Check.due("at most up to 99", x.tried(4, 0, 100), 3);
        // The first that can be, though pick would take none or another one.
        x = Check.told("feature f 1 1;feature g 1 1;sitter s 9 1;sitter t 9 1;wants s f 9;wants t g 9;law pick base*0;");
        Check.due("3, pick 0", x.tried(3, 0, 2), 2);
        Check.due("0, pick 0", x.tried(0, 0, 2), 0);
        Check.due("4, pick 0", x.tried(4, 0, 2), 0);
        x = Check.told("feature f 1 3;feature g 1 1;sitter s 9 1;sitter t 9 1;wants s f 9;wants t g 9;law pick 9-left;");
        Check.due("0: g first", x.tried(0, 0, 1), 1);
        Check.due("3: f first", x.tried(3, 0, 1), 0);
        // Up to the DAY 99, itself lived through.
        x = Check.told("feature f 1 1;sitter s 9 1;wants s f 99;");
        x.dies(0);
        Check.due("of the dead none", x.tried(4, 0, 100), 0);
        x = Check.told("feature f 99 1;sitter s 99 1;wants s f 99;");
        x.days(98);
        Check.due("98 and none behind 99: 1 left", x.piece(0, 3), 98);
        Check.due("one day", x.tried(0, 0, 1), 1);
        x = Check.told("feature f 99 1;sitter s 999 1;sitter t 1 0;wants s f 99;hail 98;");
        x.days(99);
        Check.due("not DONE on 99", x.count(11), 0);
        Check.due("DAY 99 is the last tried", x.tried(0, 0, 100), 1);
        // All is PAID UP: nothing is paid, nothing lapses.
        x = Check.told("feature f 99 3;sitter s 0 0;wants s f 0;");
        Check.due("doesn't lapse", x.tried(4, 0, 3), 1);
    }

    private static void triedTwins() {
        // RATE 4: the twin's half is 2. With one who pays nothing the other half still comes.
        String text = "feature f 4 1;sitter a 9 4;sitter b 9 0;wants a f 0;twin a b;";
        PaidFaces x = Check.told(text);
        Check.due("both pay", x.tried(0, 0, 1), 1);
        Check.due("a pays nothing", x.tried(1, 0, 1), 0);
        Check.due("b pays nothing for a", x.tried(1, 1, 1), 0);
        x = Check.told("feature f 4 1;sitter a 9 4;sitter b 9 0;wants a f 9;twin a b;");
        Check.due("a's twin pays 2, 1, then 0 of 1", x.tried(1, 0, 9), 0);
        Check.due("b pays nothing: a pays 2, 1, 1", x.tried(1, 1, 2), 0);
        Check.due("b pays nothing: a pays 2, 1, 1", x.tried(1, 1, 3), 1);
        // The price sinks with what is PAID: the twin's half alone, 2 of 4, makes it PAID UP.
        x = Check.told("feature f 4 1;sitter a 9 4;sitter b 9 0;wants a f 9;twin a b;law price 4-paid;");
        Check.due("by the twin's half alone", x.tried(1, 0, 1), 1);
        Check.due("by the other half alone", x.tried(1, 1, 1), 1);
        // A FEATURE that isn't painted is paid all the same: nothing is left for g.
        x = Check.told("feature f 5 1;feature g 5 1;sitter a 5 5;wants a f 9;wants a g 9;");
        Check.due("f isn't painted", x.tried(2, 0, 9), 0);
        Check.due("g isn't painted", x.tried(2, 1, 9), 1);
    }
}
