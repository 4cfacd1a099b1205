import java.util.ArrayList;
import java.util.List;

/** What can be undone, IMAGES and counts at their edges, sentence by sentence: the fourth part and promises 26 to 29. */
public final class PastEdgesTest {
    private static final String TEXT = "feature f 9 2;feature g 9 1;sitter a 50 3;sitter b 60 3;sitter c 70 3;"
        + "wants a f 50;wants a g 50;wants b g 50;heir c a;";

    private PastEdgesTest() {
    }

    public static void main(String[] args) {
        whatCanBeUndone();
        whatCannot();
        latestFirst();
        twentyAtMost();
        ifNoDayWentBy();
        imageKeepsAll();
        imageKeepsNot();
        howManyAreLeft();
        nothingToUndo();
        inPlaceOfOne();
        backAsInImage();
        backNone();
        counts();
        countNone();
        Check.end();
    }

    /** All that can be asked of how it stands, but for what was SEEN and what can be undone. */
    private static List<Long> stand(PaidFaces x) {
        List<Long> all = new ArrayList<>();
        for (int s = 0; s < 3; s++) {
            for (int what = 0; what < 6; what++) {
                all.add(Check.look(x, s, what));
            }
        }
        for (int p = 0; p < 3; p++) {
            for (int what = 0; what < 8; what++) {
                all.add((long) x.piece(p, what));
                all.add((long) x.owner(p, what));
            }
            all.add((long) x.match(p));
            for (int what = 0; what < 3; what++) {
                all.add((long) x.auction(p, what));
            }
        }
        for (int d = 0; d < 100; d++) {
            for (int what = 0; what < 3; what++) {
                all.add((long) x.log(d, what));
            }
        }
        all.add((long) x.forged());
        for (int what : new int[] {0, 1, 2, 3, 4, 5, 9, 10, 11}) {
            all.add((long) x.count(what));
        }
        return all;
    }

    private static void same(String what, PaidFaces x, List<Long> due) {
        Check.due(what, stand(x).equals(due), true);
    }

    // ---- what can be undone

    private static void whatCanBeUndone() {
        Check.says("AUCTIONS, deaths, MATCHES, STROKES of a forger, coin given can be undone,");
        PaidFaces x = Check.told(TEXT);
        x.days(1);
        List<Long> start = stand(x);
        Check.due("a STROKE of a forger", x.forge(1), 1);
        Check.due("another state", stand(x).equals(start), false);
        Check.due("undo", x.undo(), 0);
        same("the STROKE is undone, the OWNER too", x, start);
        x.give(0, 7);
        x.undo();
        same("coin is undone", x, start);
        x.dies(2);
        x.undo();
        same("a death is undone", x, start);
        x.forge(1);
        List<Long> forged = stand(x);
        Check.due("AUCTION", x.sell(1), 9);
        x.undo();
        same("an AUCTION is undone", x, forged);
        x.dies(0);
        List<Long> left = stand(x);
        Check.due("MATCH", x.adopt(), 1);
        x.undo();
        same("a MATCH is undone", x, left);
        x.undo();
        same("a death without an heir is undone", x, forged);
        x.undo();
        same("as it was", x, start);
        Check.due("undo", x.undo(), -1);
    }

    private static void whatCannot() {
        Check.says("`int undo()`: The latest is undone:");
        PaidFaces x = Check.told(TEXT);
        x.give(0, 1);
        // What is refused, what is only asked, what was SEEN and an IMAGE are none that can be undone.
        x.give(0, 0);
        x.give(3, 1);
        x.give(0, 1000);
        x.forge(3);
        x.forge(-1);
        x.sell(0);
        x.sell(5);
        x.dies(3);
        x.dies(-1);
        x.adopt();
        x.match(0);
        x.auction(0, 0);
        x.gallery(9, 0);
        x.tried(0, 0, 9);
        x.see(0, true);
        x.strike(0);
        x.known(1);
        x.keep();
        x.days(0);
        x.days(-1);
        x.days(101);
        x.text(1);
        x.feed(0, 0, 0, 0, 0);
        Check.due("one alone", x.count(8), 1);
        Check.due("undo", x.undo(), 0);
        Check.due("purse", Check.look(x, 0, 0), 50);
        Check.due("SEEN stays", x.count(6), 2);
        Check.due("KNOWN stays", x.count(7), 1);
        Check.due("the IMAGE stays", x.back(), 0);
        // A refused one by DONE, by the dead, by nobody who bids.
        x = Check.told(TEXT + "law bid 0;");
        x.forge(1);
        x.dies(2);
        Check.due("DONE", x.forge(1), -1);
        Check.due("dead", x.dies(2), -1);
        Check.due("dead", x.give(2, 1), -1);
        Check.due("nobody", x.sell(1), -2);
        Check.due("none LEFT OVER", x.adopt(), 0);
        Check.due("two", x.count(8), 2);
    }

    private static void latestFirst() {
        Check.says("the latest first (20 at most),");
        PaidFaces x = Check.told(TEXT);
        List<List<Long>> stands = new ArrayList<>();
        stands.add(stand(x));
        x.forge(2);
        stands.add(stand(x));
        x.give(1, 500);
        stands.add(stand(x));
        x.sell(2);
        stands.add(stand(x));
        x.forge(0);
        stands.add(stand(x));
        x.dies(0);
        stands.add(stand(x));
        x.adopt();
        for (int k = 5; k >= 0; k--) {
            x.undo();
            same("undone back to " + k, x, stands.get(k));
        }
    }

    private static void twentyAtMost() {
        Check.says("can be undone, the latest first (20 at most), if no DAY went by since.");
        for (int many : new int[] {19, 20, 21, 40, 41, 45}) {
            PaidFaces x = Check.told(TEXT);
            for (int k = 0; k < many; k++) {
                x.give(0, 1);
            }
            int back = Math.min(20, many);
            Check.due("count(8) of " + many, x.count(8), back);
            for (int k = back - 1; k >= 0; k--) {
                Check.due("undo", x.undo(), k);
            }
            Check.due("undo", x.undo(), -1);
            Check.due("the first ones stay", Check.look(x, 0, 0), 50 + many - back);
            // There is room for twenty again.
            for (int k = 0; k < 20; k++) {
                x.give(1, 1);
            }
            Check.due("count(8)", x.count(8), 20);
            for (int k = 19; k >= 0; k--) {
                Check.due("undo", x.undo(), k);
                Check.due("purse", Check.look(x, 1, 0), 60 + k);
            }
        }
    }

    private static void ifNoDayWentBy() {
        Check.says("if no DAY went by since.");
        for (int days : new int[] {1, 2, 100}) {
            PaidFaces x = Check.told(TEXT);
            x.give(0, 5);
            x.forge(1);
            Check.due("days", x.days(days), days);
            Check.due("count(8)", x.count(8), 0);
            List<Long> then = stand(x);
            Check.due("undo", x.undo(), -1);
            same("as it was", x, then);
            x.give(0, 5);
            Check.due("what comes behind it can be", x.undo(), 0);
            same("as it was", x, then);
        }
        PaidFaces x = Check.told(TEXT);
        x.give(0, 5);
        Check.due("days(0): none went by", x.days(0), 0);
        Check.due("none went by", x.days(101), -1);
        Check.due("none went by", x.days(-1), -1);
        x.tried(0, 0, 50);
        Check.due("undo", x.undo(), 0);
        Check.due("purse", Check.look(x, 0, 0), 50);
    }

    // ---- IMAGES

    private static void imageKeepsAll() {
        Check.says("An IMAGE keeps all but what was SEEN,");
        PaidFaces x = Check.told(TEXT + "hail 3;law price 3+day;law bid 9+owned;");
        x.forge(2);
        x.days(4);
        x.forge(0);
        x.sell(2);
        x.dies(2);
        x.give(0, 30);
        List<Long> then = stand(x);
        Check.due("keep", x.keep(), 4);
        same("keep changes nothing", x, then);
        x.sell(2);
        x.dies(1);
        x.dies(0);
        x.days(50);
        Check.due("another state", stand(x).equals(then), false);
        Check.due("back", x.back(), 4);
        same("all is as kept", x, then);
        // It goes on from there as it did.
        x.days(2);
        List<Long> later = stand(x);
        x.back();
        x.forge(1);
        x.days(96);
        x.back();
        x.days(2);
        same("the same once more", x, later);
    }

    private static void imageKeepsNot() {
        Check.says("but what was SEEN, by how many it is KNOWN, the TAPE and the FAULT.");
        PaidFaces x = Check.told(TEXT);
        x.see(0, true);
        x.keep();
        x.see(1, true);
        x.strike(0);
        x.known(2);
        Check.tell(x, "hail!");
        Check.feed(x, "law bid 1;");
        Check.due("back", x.back(), 0);
        Check.due("SEEN", x.count(6), 3);
        Check.due("KNOWN", x.count(7), 2);
        Check.due("FAULT", x.fault(0), 1);
        Check.due("its place", x.fault(1), 4);
        Check.due("text", x.text(21), -2);
        Check.due("the TAPE", x.text(10), 1);
    }

    private static void howManyAreLeft() {
        Check.says("how many are left; NONE: none.");
        PaidFaces x = Check.told(TEXT);
        Check.due("none", x.undo(), -1);
        x.give(0, 1);
        x.give(0, 1);
        x.give(0, 1);
        Check.due("two are left", x.undo(), 2);
        Check.due("one is left", x.undo(), 1);
        x.give(0, 1);
        Check.due("one again", x.undo(), 1);
        Check.due("0 are left", x.undo(), 0);
        Check.due("none", x.undo(), -1);
        Check.due("none", x.undo(), -1);
        Check.due("purse", Check.look(x, 0, 0), 50);
    }

    private static void nothingToUndo() {
        Check.says("All that it keeps is as in the IMAGE (nothing to undo then): which DAY it is;");
        PaidFaces x = Check.told(TEXT);
        x.give(0, 5);
        x.keep();
        Check.due("to undo behind keep", x.count(8), 1);
        x.give(0, 6);
        Check.due("back", x.back(), 0);
        Check.due("nothing to undo", x.count(8), 0);
        Check.due("undo", x.undo(), -1);
        Check.due("purse", Check.look(x, 0, 0), 55);
        x.give(0, 7);
        Check.due("what comes behind it can be", x.undo(), 0);
        Check.due("purse", Check.look(x, 0, 0), 55);
    }

    private static void inPlaceOfOne() {
        Check.says("An IMAGE is kept (in place of one ahead): which DAY it is.");
        PaidFaces x = Check.told(TEXT);
        Check.due("keep", x.keep(), 0);
        x.days(3);
        Check.due("keep", x.keep(), 3);
        List<Long> then = stand(x);
        x.days(2);
        Check.due("back", x.back(), 3);
        same("the one in place", x, then);
        Check.due("not the one ahead", x.back(), 3);
        x.days(97);
        Check.due("keep on 100", x.keep(), 100);
        Check.due("back to 100", x.back(), 100);
        Check.due("keep of an empty TEXT", new PaidFaces().keep(), 0);
    }

    private static void backAsInImage() {
        Check.says("All that it keeps is as in the IMAGE");
        PaidFaces x = Check.told(TEXT);
        x.keep();
        List<Long> then = stand(x);
        for (int k = 0; k < 3; k++) {
            x.forge(k);
            x.dies(k);
            x.days(30 * k);
            Check.due("back once more", x.back(), 0);
            same("as kept", x, then);
        }
        // What is undone behind keep is there in the IMAGE.
        x.forge(1);
        x.sell(1);
        then = stand(x);
        x.keep();
        x.undo();
        x.undo();
        x.forge(2);
        x.sell(2);
        x.back();
        same("as kept", x, then);
        Check.due("the OWNERS as kept", x.owner(1, 1), 1);
        Check.due("none of the other", x.owner(2, 0), -2);
    }

    private static void backNone() {
        Check.says("which DAY it is; NONE: there is none.");
        PaidFaces x = new PaidFaces();
        Check.due("back", x.back(), -1);
        Check.tell(x, TEXT);
        x.days(5);
        x.give(0, 5);
        Check.due("back", x.back(), -1);
        Check.due("nothing is lost by it", x.undo(), 0);
        Check.due("the DAY", x.count(5), 5);
        x.keep();
        Check.tell(x, TEXT);
        Check.due("none of a TEXT ahead", x.back(), -1);
    }

    // ---- counts

    private static void counts() {
        Check.says("0 FEATURES, 1 SITTERS, 2 PIECES, 3 KIN, 4 KNOTS, 5 the DAY, 6 SEEN, 7 by how many it is KNOWN (by all: how many there "
            + "are), 8 what can be undone, 9 the PAINTER's coin, 10 all purses, 11 PIECES DONE.");
        PaidFaces x = Check.told(TEXT + "kin a b g;law price (9);law bid not 9+base*0;");
        int[][] due = {{2, 3, 3, 1, 7, 0, 0, 0, 0, 0, 180, 0}, {2, 3, 3, 1, 7, 2, 0, 0, 0, 12, 168, 0},
            {2, 3, 3, 1, 7, 2, 3, 3, 3, 12, 175, 2}, {2, 3, 3, 1, 7, 2, 3, 2, 3, 12, 175, 2}, {2, 3, 3, 1, 7, 2, 3, 0, 4, 73, 114, 2}};
        for (int k = 0; k < due.length; k++) {
            switch (k) {
                case 1:
                    x.days(2);
                    break;
                case 2:
                    x.see(0, true);
                    x.see(1, true);
                    x.strike(0);
                    x.forge(1);
                    x.forge(2);
                    x.give(1, 7);
                    break;
                case 3:
                    x.known(2);
                    break;
                case 4:
                    x.known(0);
                    x.dies(1);
                    break;
                default:
                    break;
            }
            for (int what = 0; what < 12; what++) {
                Check.due("count(" + what + ") at " + k, x.count(what), due[k][what]);
            }
        }
    }

    private static void countNone() {
        Check.says("NONE for another what.");
        PaidFaces x = Check.told(TEXT);
        for (int what : new int[] {-1, 12, 13, 100, Integer.MAX_VALUE, Integer.MIN_VALUE}) {
            Check.due("count(" + what + ")", x.count(what), -1);
            Check.due("count(" + what + ")", new PaidFaces().count(what), -1);
        }
    }
}
