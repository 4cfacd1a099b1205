/** Promises 26 to 28: undo, keep, back. */
public final class UndoTest {
    private static final String TEXT = "feature f 9 2;feature g 9 1;sitter a 50 3;sitter b 60 3;sitter c 70 3;"
        + "wants a f 50;wants a g 50;wants b g 50;";

    public static void main(String[] args) {
        undoing();
        twentyAtMost();
        nothingUndone();
        images();
        imageAndOwners();
        Check.end();
    }

    /** All that can be asked of how it stands, as one number. */
    private static long print(PaidFaces x) {
        long sum = 17;
        for (int s = 0; s < 3; s++) {
            for (int what = 0; what < 6; what++) {
                sum = sum * 31 + Check.look(x, s, what);
            }
        }
        for (int p = 0; p < 3; p++) {
            for (int what = 0; what < 8; what++) {
                sum = sum * 31 + x.piece(p, what);
                sum = sum * 31 + x.owner(p, what);
            }
        }
        for (int d = 0; d < 20; d++) {
            for (int what = 0; what < 3; what++) {
                sum = sum * 31 + x.log(d, what);
            }
        }
        return ((sum * 31 + x.forged()) * 31 + x.count(5)) * 31 + x.count(9);
    }

    private static void undoing() {
        PaidFaces x = Check.told(TEXT);
        x.days(1);
        long[] prints = new long[8];
        prints[0] = print(x);
        Check.due("forge", x.forge(1), 1);
        prints[1] = print(x);
        Check.due("forge", x.forge(2), 1);
        prints[2] = print(x);
        Check.due("give", x.give(2, 7), 77);
        prints[3] = print(x);
        Check.due("sell", x.sell(1), 9);
        prints[4] = print(x);
        Check.due("dies", x.dies(0), -2);
        prints[5] = print(x);
        Check.due("dies", x.dies(1), -2);
        prints[6] = print(x);
        Check.due("adopt", x.adopt(), 1);
        for (int k = 6; k >= 0; k--) {
            Check.due("undo", x.undo(), k);
            Check.due("as it was", print(x), prints[k]);
        }
        Check.due("undo", x.undo(), -1);
        Check.due("as it was", print(x), prints[0]);
    }

    private static void twentyAtMost() {
        PaidFaces x = Check.told(TEXT);
        for (int k = 1; k <= 45; k++) {
            x.give(0, 1);
            Check.due("count(8)", x.count(8), Math.min(k, 20));
        }
        for (int k = 19; k >= 0; k--) {
            Check.due("undo", x.undo(), k);
            Check.due("purse", Check.look(x, 0, 0), 75 + k);
        }
        Check.due("undo", x.undo(), -1);
        Check.due("purse", Check.look(x, 0, 0), 75);
        x.give(0, 1);
        Check.due("undo", x.undo(), 0);
    }

    private static void nothingUndone() {
        PaidFaces x = Check.told(TEXT);
        x.give(0, 1);
        x.see(0, true);
        x.known(0);
        x.keep();
        x.days(0);
        x.tried(0, 0, 5);
        x.days(101);
        Check.due("nothing went by", x.count(8), 1);
        Check.due("undo", x.undo(), 0);
        Check.due("what was SEEN stays", x.count(6), 1);
        x.give(0, 1);
        x.days(1);
        Check.due("a DAY went by", x.count(8), 0);
        Check.due("undo", x.undo(), -1);
        Check.due("purse", Check.look(x, 0, 0), 48);
    }

    private static void images() {
        PaidFaces x = Check.told(TEXT);
        Check.due("no image", x.back(), -1);
        x.days(2);
        x.forge(2);
        long then = print(x);
        Check.due("keep", x.keep(), 2);
        Check.due("undo stays behind keep", x.count(8), 1);
        x.see(0, true);
        x.days(4);
        x.dies(1);
        x.forge(0);
        x.give(2, 5);
        x.see(1, true);
        x.known(1);
        Check.due("feed", x.feed(0, 0, 0, 0, 0), 20);
        Check.due("back", x.back(), 2);
        Check.due("as kept", print(x), then);
        Check.due("nothing to undo", x.undo(), -1);
        Check.due("SEEN stays", x.count(6), 2);
        Check.due("KNOWN stays", x.count(7), 1);
        Check.due("the log behind is gone", x.log(2, 0), -1);
        Check.due("the tape stays", x.text(20), -1);
        Check.due("the fault stays", x.back() * 10 + x.fault(0), 21);
        x.days(9);
        Check.due("back again", x.back(), 2);
        Check.due("as kept", print(x), then);
        x.days(3);
        Check.due("one in place of it", x.keep(), 5);
        long later = print(x);
        x.days(1);
        Check.due("back", x.back(), 5);
        Check.due("as kept", print(x), later);
        x.days(95);
        Check.due("keep on 100", x.keep(), 100);
        Check.due("back", x.back(), 100);
        PaidFaces empty = new PaidFaces();
        Check.due("keep", empty.keep(), 0);
        empty.days(3);
        Check.due("back", empty.back(), 0);
        Check.due("DAY", empty.count(5), 0);
    }

    private static void imageAndOwners() {
        PaidFaces x = Check.told(TEXT);
        x.forge(1);
        x.forge(2);
        x.sell(1);
        long then = print(x);
        x.keep();
        x.undo();
        x.undo();
        x.undo();
        x.forge(2);
        x.sell(2);
        x.give(0, 9);
        Check.due("back", x.back(), 0);
        Check.due("as kept, owners too", print(x), then);
        Check.due("owner", x.owner(1, 1), 1);
    }
}
