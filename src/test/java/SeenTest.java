/** Promises 20 to 23: see, strike, known, who. */
public final class SeenTest {
    private static final String TEXT = "feature f 1 1;feature g 1 1;sitter a 0 0;sitter b 0 0;sitter c 0 0;"
        + "wants a f 99;wants b g 99;wants c f 99;wants c g 99;";

    public static void main(String[] args) {
        seeing();
        striking();
        knowing();
        room();
        Check.end();
    }

    private static PaidFaces painted() {
        PaidFaces x = Check.told(TEXT);
        for (int p = 0; p < 4; p++) {
            x.forge(p);
        }
        return x;
    }

    private static void seeing() {
        PaidFaces x = painted();
        Check.due("who of all", x.who(), 7);
        Check.due("see", x.see(0, true), 0);
        Check.due("with f", x.who(), 5);
        Check.due("see", x.see(1, false), 1);
        Check.due("with f, without g", x.who(), 1);
        x.dies(0);
        Check.due("dead ones, too", x.who(), 1);
        Check.due("see", x.see(0, false), 2);
        Check.due("with and without f", x.who(), 0);
        Check.due("see(2)", x.see(2, true), -1);
        Check.due("see(-1)", x.see(-1, true), -1);
        Check.due("count", x.count(6), 3);
        Check.due("no sitters", new PaidFaces().who(), 0);
        x = Check.told(TEXT);
        x.see(0, true);
        Check.due("asked by what is now", x.who(), 0);
        x.forge(0);
        Check.due("asked by what is now", x.who(), 1);
        x = Check.told(TEXT);
        x.see(1, false);
        x.forge(1);
        Check.due("without g", x.who(), 5);
    }

    private static void striking() {
        PaidFaces x = painted();
        Check.due("strike(0) of none", x.strike(0), -1);
        x.see(0, true);
        x.see(1, true);
        Check.due("both", x.who(), 4);
        Check.due("strike(-1)", x.strike(-1), -1);
        Check.due("strike(2)", x.strike(2), -1);
        Check.due("strike(0)", x.strike(0), 2);
        Check.due("g alone", x.who(), 6);
        Check.due("strike the strike", x.strike(2), 3);
        Check.due("both again", x.who(), 4);
        Check.due("strike the strike's strike", x.strike(3), 4);
        Check.due("g alone again", x.who(), 6);
        Check.due("strike(1)", x.strike(1), 5);
        Check.due("none", x.who(), 7);
        Check.due("twice struck", x.strike(1), 6);
        Check.due("one of two strikes struck", x.strike(6), 7);
        Check.due("struck still", x.who(), 7);
        Check.due("the other, too", x.strike(5), 8);
        Check.due("g", x.who(), 6);
    }

    private static void knowing() {
        PaidFaces x = painted();
        Check.due("known(0)", x.known(0), true);
        Check.due("known(1)", x.known(1), false);
        Check.due("known(-2)", x.known(-2), false);
        x.see(0, true);
        Check.due("by none", x.who(), 7);
        Check.due("count(7)", x.count(7), 0);
        x.see(1, true);
        x.strike(0);
        Check.due("known(1)", x.known(1), true);
        Check.due("the first alone, not struck by what comes behind", x.who(), 5);
        Check.due("known(2)", x.known(2), true);
        Check.due("two", x.who(), 4);
        Check.due("known(3)", x.known(3), true);
        Check.due("with the strike", x.who(), 6);
        Check.due("known(4)", x.known(4), false);
        Check.due("stays", x.count(7), 3);
        x.strike(2);
        Check.due("not what comes later", x.who(), 6);
        Check.due("known(-1)", x.known(-1), true);
        Check.due("all", x.who(), 4);
        x.see(0, false);
        Check.due("those to come, too", x.who(), 0);
        Check.due("count(7)", x.count(7), 5);
    }

    private static void room() {
        PaidFaces x = painted();
        for (int k = 0; k < 24; k++) {
            Check.due("see or strike", k % 2 == 0 ? x.see(0, true) : x.strike(k - 1), k);
        }
        Check.due("see a 25th", x.see(0, true), -1);
        Check.due("strike a 25th", x.strike(0), -1);
        Check.due("24", x.count(6), 24);
        Check.due("all struck", x.who(), 7);
        Check.due("known(24)", x.known(24), true);
        Check.due("known(25)", x.known(25), false);
        x.known(23);
        Check.due("the last not struck", x.who(), 5);
        Check.due("a strike of the last but one", x.count(7), 23);
    }
}
