import java.util.Random;

/** Random runs of calls, each answer beside the model's. The seeds stand here, so each run is the same again. */
public final class ModelTest {
    private static final String[] PARTS = {"feature", "sitter", "wants", "kin", "twin", "heir", "hail", "law", "price", "pick",
        "bid", "or", "and", "not", "base", "left", "purse", "owned", "day", "till", "paid", "a", "b", "abcdef", "abcdefg",
        ";", "(", ")", "+", "-", "*", "/", "<", "<=", "=", "<>", ">=", ">", "0", "1", "7", "99", "100", "9999", "10000", "!"};
    private static final String[] NAMES = {"base", "left", "purse", "owned", "day", "till", "paid"};
    private static final String[] SIGNS = {"+", "-", "*", "/", "<", "<=", "=", "<>", ">=", ">", " and ", " or "};

    private final Random random;
    private final PaidFaces x = new PaidFaces();
    private final Model m = new Model();
    private final StringBuilder story = new StringBuilder();

    private ModelTest(long seed) {
        random = new Random(seed);
        story.append("seed ").append(seed);
    }

    public static void main(String[] args) {
        int runs = args.length > 0 ? Integer.parseInt(args[0]) : 4000;
        long from = args.length > 1 ? Long.parseLong(args[1]) : 1;
        int sum = 0;
        for (int k = 0; k < runs; k++) {
            sum += new ModelTest(from + k).run();
        }
        System.out.println("all " + sum + " answers are as due");
    }

    private int r(int n) {
        return random.nextInt(n);
    }

    /** Mostly from least to most, now and then beside it. */
    private int near(int least, int most) {
        switch (r(40)) {
            case 0: return least - 1;
            case 1: return most + 1;
            case 2: return random.nextInt();
            default: return least + r(most - least + 1);
        }
    }

    private void due(String call, long got, long want) {
        story.append("\n").append(call).append(" -> ").append(got);
        if (got != want) {
            System.out.println(story + ", the model says " + want);
            System.exit(1);
        }
    }

    private int run() {
        tell();
        int calls = 20 + r(400);
        boolean slow = r(2) == 0;
        for (int k = 0; k < calls; k++) {
            call(slow);
            if (r(6) == 0) {
                compareAll();
            }
        }
        compareAll();
        return calls;
    }

    private void tell() {
        for (int tries = 0; tries < 1 + r(3); tries++) {
            String text = r(12) == 0 ? babble() : story(r(5) != 0);
            if (r(4) == 0 && !text.isEmpty()) {
                text = spoilt(text);
            }
            feed(text);
            int n = r(30) == 0 ? near(0, text.length() + 25) : Math.min(text.length(), 700);
            due("text of " + text.replace('\n', ' '), x.text(n), m.text(n));
            due("fault(0)", x.fault(0), m.fault(0, 0));
            due("fault(1)", x.fault(1), m.fault(1, 0));
        }
    }

    private void feed(String text) {
        for (int at = 0; at < text.length(); at += 20) {
            int[] f = new int[5];
            for (int k = 0; k < 20; k++) {
                f[k / 4] = f[k / 4] << 8 | (at + k < text.length() ? text.charAt(at + k) & 255 : ' ');
            }
            due("feed", x.feed(f[0], f[1], f[2], f[3], f[4]), m.feed(f));
        }
    }

    private String babble() {
        StringBuilder s = new StringBuilder(r(2) == 0 ? "law pick " : "");
        for (int k = r(40); k > 0; k--) {
            s.append(PARTS[r(PARTS.length)]).append(r(3) == 0 ? "" : r(5) == 0 ? "\n" : " ");
        }
        return s.toString();
    }

    private String spoilt(String text) {
        StringBuilder s = new StringBuilder(text);
        int at = r(s.length());
        switch (r(4)) {
            case 0: s.setLength(at); break;
            case 1: s.deleteCharAt(at); break;
            case 2: s.insert(at, " " + PARTS[r(PARTS.length)] + " "); break;
            default: s.setCharAt(at, (char) r(256)); break;
        }
        return s.toString();
    }

    private String name(int k) {
        return String.valueOf((char) ('a' + k));
    }

    private String story(boolean careful) {
        StringBuilder s = new StringBuilder();
        int features = 1 + r(5);
        int sitters = 1 + r(5);
        int rich = r(3);
        for (int f = 0; f < features; f++) {
            s.append("feature ").append(name(f)).append(' ').append(1 + r(rich == 0 ? 99 : 12)).append(' ').append(1 + r(4)).append(';');
        }
        for (int k = 0; k < sitters; k++) {
            s.append("sitter ").append(name(k)).append(' ').append(r(rich == 2 ? 999 : 40)).append(' ').append(r(20)).append(';');
        }
        StringBuilder[] lines = new StringBuilder[30];
        int count = 0;
        boolean[] wanted = new boolean[25];
        for (int k = r(12); k > 0 && count < 10; k--) {
            int who = r(sitters);
            int f = r(features);
            if (!wanted[who * 5 + f] || !careful) {
                wanted[who * 5 + f] = true;
                lines[count++] = new StringBuilder("wants ").append(name(who)).append(' ').append(name(f)).append(' ').append(r(r(3) == 0 ? 99 : 15));
            }
        }
        for (int k = r(4); k > 0; k--) {
            lines[count++] = pair("kin", sitters, careful).append(' ').append(name(r(features)));
        }
        if (r(2) == 0) {
            lines[count++] = pair("twin", sitters, careful);
        }
        boolean[] heired = new boolean[5];
        for (int k = r(6); k > 0; k--) {
            StringBuilder heir = pair("heir", sitters, careful);
            int one = heir.charAt(5) - 'a';
            if (!heired[one] || !careful) {
                heired[one] = true;
                lines[count++] = heir;
            }
        }
        if (r(2) == 0) {
            lines[count] = new StringBuilder("hail");
            for (int k = 1 + r(careful ? 12 : 14); k > 0; k--) {
                lines[count].append(' ').append(r(25));
            }
            count++;
        }
        String[] kinds = {"price", "pick", "bid"};
        for (int k = 0; k < 3; k++) {
            if (r(2) == 0) {
                lines[count++] = new StringBuilder("law ").append(kinds[careful ? k : r(3)]).append(' ').append(term(careful ? 2 + r(2) : r(5)));
            }
        }
        for (int k = count - 1; k >= 0; k--) {
            int other = r(k + 1);
            StringBuilder line = lines[other];
            lines[other] = lines[k];
            if (s.length() + line.length() < 690 && (sitters > 1 || !careful || !line.toString().matches("(kin|twin|heir).*"))) {
                s.append(line).append(r(9) == 0 ? " ; " : ";");
            }
        }
        return s.toString();
    }

    private StringBuilder pair(String word, int sitters, boolean careful) {
        int one = r(sitters);
        int other = r(sitters);
        if (careful && one == other) {
            other = (one + 1) % sitters;
        }
        return new StringBuilder(word).append(' ').append(name(one)).append(' ').append(name(other));
    }

    private String term(int depth) {
        if (depth <= 0 || r(5) == 0) {
            return r(2) == 0 ? NAMES[r(NAMES.length)] : String.valueOf(r(r(8) == 0 ? 9999 : 6));
        }
        switch (r(6)) {
            case 0: return "not " + term(depth - 1);
            case 1: return "(" + term(depth - 1) + ")";
            default: return term(depth - 1) + SIGNS[r(3) == 0 ? r(SIGNS.length) : r(4)] + term(depth - 1);
        }
    }

    private void call(boolean slow) {
        int p = near(0, Math.max(0, m.count(2, 0) - 1));
        int s = near(0, Math.max(0, m.count(1, 0) - 1));
        switch (r(slow ? 24 : 30)) {
            case 0: case 1: case 2: case 3: case 4: due("forge " + p, x.forge(p), m.forge(p, 0)); break;
            case 5: case 6: case 7: case 8: case 9: due("sell " + p, x.sell(p), m.sell(p, 0)); break;
            case 10:
                if (r(3) == 0) {
                    due("dies " + s, x.dies(s), m.dies(s, 0));
                }
                break;
            case 11: due("adopt", x.adopt(), m.adopt()); break;
            case 12: case 13:
                int coin = near(1, r(3) == 0 ? 999 : 30);
                due("give " + s + " " + coin, x.give(s, coin), m.give(s, coin));
                break;
            case 14: case 15: due("undo", x.undo(), m.undo()); break;
            case 16: due("keep", x.keep(), m.keep()); break;
            case 17: due("back", x.back(), m.back()); break;
            case 18: case 19:
                int f = near(0, Math.max(0, m.count(0, 0) - 1));
                boolean is = r(2) == 0;
                due("see " + f + " " + is, x.see(f, is), m.see(f, is));
                break;
            case 20: case 21:
                int which = near(0, Math.max(0, m.count(6, 0) - 1));
                due("strike " + which, x.strike(which), m.strike(which, 0));
                break;
            case 22:
                int n = near(-1, m.count(6, 0));
                due("known " + n, x.known(n) ? 1 : 0, m.known(n) ? 1 : 0);
                break;
            case 23:
                if (r(40) == 0) {
                    tell();
                }
                break;
            default:
                int days = r(60) == 0 ? near(0, 100) : r(4);
                due("days " + days, x.days(days), m.days(days));
                break;
        }
    }

    private void compareAll() {
        for (int what = -1; what <= 12; what++) {
            due("count " + what, x.count(what), m.count(what, 0));
        }
        for (int s = -1; s <= m.count(1, 0); s++) {
            for (int what = -1; what <= 6; what++) {
                due("look " + s + " " + what, Check.look(x, s, what), m.look(s, what));
            }
        }
        for (int p = -1; p <= m.count(2, 0); p++) {
            for (int what = -1; what <= 8; what++) {
                due("piece " + p + " " + what, x.piece(p, what), m.piece(p, what));
                int s = near(0, 4);
                due("law " + what + " " + p + " " + s, x.law(what, p, s), m.law(what, p, s));
                due("auction " + p + " " + what, x.auction(p, what), m.auction(p, what));
                due("owner " + p + " " + what, x.owner(p, what), m.owner(p, what));
            }
            due("match " + p, x.match(p), m.match(p, ""));
        }
        for (int k = 0; k < 12; k++) {
            int n = near(0, r(4) == 0 ? 100 : 12);
            int what = near(0, 2);
            due("gallery " + n + " " + what, x.gallery(n, what), m.gallery(n, what));
            int how = near(0, 4);
            int i = how == 1 || how == 2 ? near(0, 4) : near(0, 0);
            due("tried " + how + " " + i + " " + n, x.tried(how, i, n), m.tried(how, i, n));
            int day = near(0, 100);
            due("log " + day + " " + what, x.log(day, what), m.log(day, what));
            int letters = Check.letters(name(r(6)));
            due("named", x.named(what, letters), m.named(what, letters));
        }
        due("who", x.who(), m.who());
        due("forged", x.forged(), m.forged());
    }
}
