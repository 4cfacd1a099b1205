import java.math.BigInteger;
import java.util.ArrayList;
import java.util.Arrays;
import java.util.HashMap;
import java.util.List;
import java.util.Map;

/** The document once more, as plainly as can be and with all of the library: what ModelTest compares with. */
final class Model {
    static final BigInteger MOST = BigInteger.TEN.pow(12);
    static final List<String> LANGUAGE = List.of("feature", "sitter", "wants", "kin", "twin", "heir", "hail", "law",
        "price", "pick", "bid", "or", "and", "not", "base", "left", "purse", "owned", "day", "till", "paid");
    static final List<String> NAMES = List.of("base", "left", "purse", "owned", "day", "till", "paid");

    static final class Fault extends RuntimeException {
        private static final long serialVersionUID = 1;
        final int kind;
        final int place;

        Fault(int kind, int place) {
            this.kind = kind;
            this.place = place;
        }
    }

    /** A knot of an E: a sign with its parts, a name, or a number. */
    record Knot(String sign, Knot a, Knot b, int number) {
        /** null: an ERROR. */
        BigInteger value(Map<String, Long> names) {
            if (sign.equals("#")) {
                return BigInteger.valueOf(number);
            }
            if (names.containsKey(sign)) {
                return BigInteger.valueOf(names.get(sign));
            }
            BigInteger x = a.value(names);
            BigInteger y = b == null ? BigInteger.ONE : b.value(names);
            if (x == null || y == null) {
                return null;
            }
            BigInteger v;
            switch (sign) {
                case "+": v = x.add(y); break;
                case "-": v = x.subtract(y); break;
                case "*": v = x.multiply(y); break;
                case "/": v = y.signum() == 0 ? null : x.divide(y); break;
                case "<": v = bit(x.compareTo(y) < 0); break;
                case "<=": v = bit(x.compareTo(y) <= 0); break;
                case "=": v = bit(x.equals(y)); break;
                case "<>": v = bit(!x.equals(y)); break;
                case ">=": v = bit(x.compareTo(y) >= 0); break;
                case ">": v = bit(x.compareTo(y) > 0); break;
                case "and": v = bit(x.signum() != 0 && y.signum() != 0); break;
                case "or": v = bit(x.signum() != 0 || y.signum() != 0); break;
                case "not": v = bit(x.signum() == 0); break;
                default: throw new AssertionError(sign);
            }
            return v == null || v.abs().compareTo(MOST) > 0 ? null : v;
        }

        static BigInteger bit(boolean is) {
            return is ? BigInteger.ONE : BigInteger.ZERO;
        }
    }

    /** What is told. */
    static final class Told {
        final List<String> features = new ArrayList<>();
        final List<int[]> featureRows = new ArrayList<>();
        final List<String> sitters = new ArrayList<>();
        final List<int[]> sitterRows = new ArrayList<>();
        final List<int[]> wants = new ArrayList<>();
        final List<int[]> kin = new ArrayList<>();
        final Map<Integer, Integer> twin = new HashMap<>();
        final Map<Integer, Integer> heir = new HashMap<>();
        List<Integer> hail;
        final Map<String, Knot> laws = new HashMap<>();
        int knots;
        int lines;
    }

    /** How it stands now. */
    static final class Now implements Cloneable {
        int day;
        int painter;
        int[] purse = new int[5];
        boolean[] dead = new boolean[5];
        int[] paid = new int[10];
        int[] strokes = new int[10];
        boolean[] lapsed = new boolean[10];
        boolean[] forged = new boolean[10];
        int[] owner = new int[10];
        List<int[]> changes = new ArrayList<>();
        List<int[]> log = new ArrayList<>();

        Now copy() {
            Now n = new Now();
            n.day = day;
            n.painter = painter;
            n.purse = purse.clone();
            n.dead = dead.clone();
            n.paid = paid.clone();
            n.strokes = strokes.clone();
            n.lapsed = lapsed.clone();
            n.forged = forged.clone();
            n.owner = owner.clone();
            n.changes.addAll(changes);
            n.log.addAll(log);
            return n;
        }
    }

    // ---- reading

    private List<String> words;
    private List<Integer> places;
    private int at;

    private void split(String text) {
        words = new ArrayList<>();
        places = new ArrayList<>();
        java.util.regex.Matcher m =
            java.util.regex.Pattern.compile("[a-z]+|[0-9]+|<=|<>|>=|[^ \n]", java.util.regex.Pattern.DOTALL).matcher(text);
        while (m.find()) {
            words.add(m.group());
            places.add(m.start());
        }
        words.add("");
        places.add(text.length());
        at = 0;
    }

    private String peek() {
        return words.get(at);
    }

    private Fault fault(int kind) {
        return new Fault(kind, places.get(at));
    }

    private void want(boolean is, int kind) {
        if (!is) {
            throw fault(kind);
        }
    }

    private String word() {
        String w = peek();
        want(w.matches("[a-z]{1,6}") && !LANGUAGE.contains(w), 1);
        return w;
    }

    private int number(int least, int most) {
        want(peek().matches("[0-9]+"), 1);
        BigInteger v = new BigInteger(peek());
        want(v.compareTo(BigInteger.valueOf(least)) >= 0 && v.compareTo(BigInteger.valueOf(most)) <= 0, 2);
        at++;
        return v.intValue();
    }

    private int known(List<String> names) {
        String w = word();
        want(names.contains(w), 4);
        return names.indexOf(w);
    }

    Told read(String text) {
        split(text);
        Told t = new Told();
        while (!peek().isEmpty()) {
            line(t);
            want(peek().equals(";"), 1);
            at++;
            t.lines++;
        }
        return t;
    }

    private void line(Told t) {
        String w = peek();
        int[] row;
        switch (w) {
            case "feature":
            case "sitter":
                boolean f = w.equals("feature");
                List<String> names = f ? t.features : t.sitters;
                want(names.size() < 5, 2);
                at++;
                String name = word();
                want(!names.contains(name), 3);
                at++;
                row = f ? new int[] {number(1, 99), number(1, 9)} : new int[] {number(0, 999), number(0, 99)};
                names.add(name);
                (f ? t.featureRows : t.sitterRows).add(row);
                break;
            case "wants":
                want(t.wants.size() < 10, 2);
                at++;
                int s = known(t.sitters);
                at++;
                int g = known(t.features);
                for (int[] other : t.wants) {
                    want(other[0] != s || other[1] != g, 3);
                }
                at++;
                t.wants.add(new int[] {s, g, number(0, 99)});
                break;
            case "kin":
                want(t.kin.size() < 3, 2);
                at++;
                int a = known(t.sitters);
                at++;
                int b = known(t.sitters);
                want(a != b, 5);
                at++;
                t.kin.add(new int[] {a, b, known(t.features)});
                at++;
                break;
            case "twin":
                want(t.twin.size() < 4, 2);
                at++;
                a = known(t.sitters);
                want(!t.twin.containsKey(a), 3);
                at++;
                b = known(t.sitters);
                want(!t.twin.containsKey(b), 3);
                want(a != b, 5);
                at++;
                t.twin.put(a, b);
                t.twin.put(b, a);
                break;
            case "heir":
                at++;
                a = known(t.sitters);
                want(!t.heir.containsKey(a), 3);
                at++;
                b = known(t.sitters);
                want(a != b, 5);
                at++;
                t.heir.put(a, b);
                break;
            case "hail":
                want(t.hail == null, 3);
                t.hail = new ArrayList<>();
                at++;
                t.hail.add(number(0, 99));
                while (peek().matches("[0-9]+")) {
                    want(t.hail.size() < 12, 2);
                    t.hail.add(number(0, 99));
                }
                break;
            case "law":
                at++;
                String kind = peek();
                want(List.of("price", "pick", "bid").contains(kind), 1);
                want(!t.laws.containsKey(kind), 3);
                at++;
                t.laws.put(kind, either(t, 0));
                break;
            default:
                throw fault(1);
        }
    }

    private void knot(Told t) {
        want(t.knots < 64, 2);
        t.knots++;
        at++;
    }

    private Knot either(Told t, int open) {
        Knot x = both(t, open);
        while (peek().equals("or")) {
            knot(t);
            x = new Knot("or", x, both(t, open), 0);
        }
        return x;
    }

    private Knot both(Told t, int open) {
        Knot x = denied(t, open);
        while (peek().equals("and")) {
            knot(t);
            x = new Knot("and", x, denied(t, open), 0);
        }
        return x;
    }

    private Knot denied(Told t, int open) {
        if (peek().equals("not")) {
            knot(t);
            return new Knot("not", denied(t, open), null, 0);
        }
        Knot x = sum(t, open);
        String sign = peek();
        if (List.of("<", "<=", "=", "<>", ">=", ">").contains(sign)) {
            knot(t);
            return new Knot(sign, x, sum(t, open), 0);
        }
        return x;
    }

    private Knot sum(Told t, int open) {
        Knot x = product(t, open);
        while (peek().equals("+") || peek().equals("-")) {
            String sign = peek();
            knot(t);
            x = new Knot(sign, x, product(t, open), 0);
        }
        return x;
    }

    private Knot product(Told t, int open) {
        Knot x = single(t, open);
        while (peek().equals("*") || peek().equals("/")) {
            String sign = peek();
            knot(t);
            x = new Knot(sign, x, single(t, open), 0);
        }
        return x;
    }

    private Knot single(Told t, int open) {
        String w = peek();
        if (w.equals("(")) {
            want(open < 8, 2);
            at++;
            Knot x = either(t, open + 1);
            want(peek().equals(")"), 1);
            at++;
            return x;
        }
        if (NAMES.contains(w)) {
            knot(t);
            return new Knot(w, null, null, 0);
        }
        want(w.matches("[0-9]+"), 1);
        want(t.knots < 64, 2);
        t.knots++;
        return new Knot("#", null, null, number(0, 9999));
    }

    // ---- the object

    private final StringBuilder tape = new StringBuilder();
    private int faultKind;
    private int faultPlace = -1;
    private Told told = new Told();
    private Now now = new Now();
    private Now image;
    private final List<Now> past = new ArrayList<>();
    private final List<int[]> seen = new ArrayList<>();
    private int knownBy = -1;

    int feed(int[] five) {
        if (tape.length() > 680) {
            return -1;
        }
        for (byte b : java.nio.ByteBuffer.allocate(20).putInt(five[0]).putInt(five[1]).putInt(five[2]).putInt(five[3])
            .putInt(five[4]).array()) {
            tape.append((char) (b & 255));
        }
        return tape.length();
    }

    int text(int n) {
        if (n < 0 || n > tape.length()) {
            return -2;
        }
        String text = tape.substring(0, n);
        tape.setLength(0);
        try {
            Told t = read(text);
            faultKind = 0;
            faultPlace = -1;
            told = t;
        } catch (Fault f) {
            faultKind = f.kind;
            faultPlace = f.place;
            return -1;
        }
        now = new Now();
        Arrays.fill(now.owner, -1);
        for (int s = 0; s < told.sitters.size(); s++) {
            now.purse[s] = told.sitterRows.get(s)[0];
        }
        image = null;
        past.clear();
        seen.clear();
        knownBy = -1;
        return told.lines;
    }

    int fault(int what, int unused) {
        return what == 0 ? faultKind : what == 1 ? faultPlace : -1;
    }

    int named(int what, int letters) {
        List<String> names = what == 0 ? told.features : what == 1 ? told.sitters : List.of();
        for (int k = 0; k < names.size(); k++) {
            if (Check.letters(names.get(k)) == letters) {
                return k;
            }
        }
        return -1;
    }

    private int sitters() {
        return told.sitters.size();
    }

    private int pieces() {
        return told.wants.size();
    }

    private boolean isSitter(int s) {
        return s >= 0 && s < sitters();
    }

    private boolean isPiece(int p) {
        return p >= 0 && p < pieces();
    }

    private int sitterOf(int p) {
        return told.wants.get(p)[0];
    }

    private int featureOf(int p) {
        return told.wants.get(p)[1];
    }

    private int sizeOf(int p) {
        return told.featureRows.get(featureOf(p))[1];
    }

    private int baseOf(int p) {
        return told.featureRows.get(featureOf(p))[0];
    }

    private boolean done(Now n, int p) {
        return n.strokes[p] == sizeOf(p);
    }

    private int owns(Now n, int s) {
        int sum = 0;
        for (int p = 0; p < pieces(); p++) {
            sum += n.owner[p] == s ? 1 : 0;
        }
        return sum;
    }

    private Long law(Now n, String kind, int p, int one) {
        Knot e = told.laws.get(kind);
        if (e == null) {
            return null;
        }
        Map<String, Long> names = new HashMap<>();
        names.put("base", (long) baseOf(p));
        names.put("left", (long) sizeOf(p) - n.strokes[p]);
        names.put("purse", (long) n.purse[one]);
        names.put("owned", (long) owns(n, one));
        names.put("day", (long) n.day);
        names.put("till", (long) Math.max(0, told.wants.get(p)[2] - n.day));
        names.put("paid", (long) n.paid[p]);
        BigInteger v = e.value(names);
        return v == null ? null : v.longValueExact();
    }

    private static long put(long v, long least, long most) {
        return v < least ? least : v > most ? most : v;
    }

    private int price(Now n, int p) {
        Long e = law(n, "price", p, sitterOf(p));
        return e == null ? baseOf(p) : (int) put(e, 1, 999);
    }

    private boolean paidUp(Now n, int p) {
        return n.paid[p] >= price(n, p);
    }

    private long pick(Now n, int p) {
        Long e = law(n, "pick", p, sitterOf(p));
        return told.laws.containsKey("pick") ? e == null ? 0 : e : 1;
    }

    private int face(Now n, int s) {
        int bits = 0;
        for (int p = 0; p < pieces(); p++) {
            if (!done(n, p)) {
                continue;
            }
            if (sitterOf(p) == s) {
                bits |= 1 << featureOf(p);
            }
            for (int[] k : told.kin) {
                if (k[2] == featureOf(p) && (k[0] == s && k[1] == sitterOf(p) || k[1] == s && k[0] == sitterOf(p))) {
                    bits |= 1 << featureOf(p);
                }
            }
        }
        return bits;
    }

    long look(int s, int what) {
        if (!isSitter(s)) {
            return Check.INDEX;
        }
        switch (what) {
            case 0: return now.purse[s];
            case 1: return now.dead[s] ? 0 : 1;
            case 2: return face(now, s);
            case 3: return owns(now, s);
            case 4: return told.twin.getOrDefault(s, -1);
            case 5: return told.heir.getOrDefault(s, -1);
            default: return Check.ELEMENT;
        }
    }

    int piece(int p, int what) {
        if (!isPiece(p)) {
            return -1;
        }
        switch (what) {
            case 0: return sitterOf(p);
            case 1: return featureOf(p);
            case 2: return told.wants.get(p)[2];
            case 3: return now.paid[p];
            case 4: return now.strokes[p];
            case 5: return price(now, p);
            case 6: return now.lapsed[p] ? 3 : done(now, p) ? 2 : paidUp(now, p) ? 1 : 0;
            case 7: return now.owner[p];
            default: return -1;
        }
    }

    long law(int what, int p, int s) {
        if (what < 0 || what > 2 || !isPiece(p) || what == 2 && !isSitter(s)) {
            return Long.MIN_VALUE;
        }
        Long v = law(now, List.of("price", "pick", "bid").get(what), p, what == 2 ? s : sitterOf(p));
        return v == null ? Long.MIN_VALUE : v;
    }

    // ---- days

    private void own(Now n, int p, int s) {
        n.owner[p] = s;
        if (n.changes.size() < 40) {
            n.changes.add(new int[] {p, s});
        }
    }

    private void stroke(Now n, int p) {
        n.strokes[p]++;
        if (done(n, p)) {
            own(n, p, sitterOf(p));
        }
    }

    private boolean hail(int day) {
        return told.hail != null && told.hail.contains(day);
    }

    private void day(Now n, int what, int i) {
        int coin = 0;
        for (int s = 0; s < sitters() && what != 4; s++) {
            for (int p = 0; p < pieces() && !n.dead[s]; p++) {
                if (sitterOf(p) != s || n.lapsed[p] || done(n, p) || paidUp(n, p)) {
                    continue;
                }
                int due = Math.min(told.sitterRows.get(s)[1], price(n, p) - n.paid[p]);
                int half = 0;
                Integer twin = told.twin.get(s);
                if (twin != null && !n.dead[twin]) {
                    half = due / 2;
                    due -= half;
                    half = what == 1 && i == twin ? 0 : Math.min(half, n.purse[twin]);
                    n.purse[twin] -= half;
                }
                due = what == 1 && i == s ? 0 : Math.min(due, n.purse[s]);
                n.purse[s] -= due;
                n.paid[p] += due + half;
                coin += due + half;
                break;
            }
        }
        n.painter += coin;
        int painted = -1;
        if (what == 0 || !hail(n.day)) {
            long most = 0;
            for (int p = 0; p < pieces(); p++) {
                if (!paintable(n, p, what == 4) || what == 2 && featureOf(p) == i) {
                    continue;
                }
                if (what == 3) {
                    painted = p;
                    break;
                }
                if (pick(n, p) > most) {
                    most = pick(n, p);
                    painted = p;
                }
            }
            if (painted >= 0) {
                stroke(n, painted);
            }
        }
        int lapses = 0;
        for (int p = 0; p < pieces(); p++) {
            if (told.wants.get(p)[2] == n.day && !done(n, p) && what != 4 && !paidUp(n, p)) {
                n.lapsed[p] = true;
                n.strokes[p] = 0;
                lapses++;
            }
        }
        n.log.add(new int[] {coin, painted, lapses});
        n.day++;
    }

    private boolean paintable(Now n, int p, boolean allPaid) {
        return (allPaid || paidUp(n, p)) && !n.lapsed[p] && !done(n, p) && !n.dead[sitterOf(p)];
    }

    int days(int n) {
        if (n < 0 || n > 100 || now.day + n > 100) {
            return -1;
        }
        for (int k = 0; k < n; k++) {
            past.clear();
            day(now, -1, 0);
        }
        return now.day;
    }

    int log(int day, int what) {
        return day < 0 || day >= now.day || what < 0 || what > 2 ? -1 : now.log.get(day)[what];
    }

    int tried(int what, int i, int n) {
        boolean such = what == 0 || what == 3 || what == 4 ? i == 0 : what == 1 ? isSitter(i)
            : what == 2 && i >= 0 && i < told.features.size();
        if (!such || n < 0 || n > 100) {
            return -1;
        }
        Now other = now.copy();
        for (int k = 0; k < n && other.day <= 99; k++) {
            day(other, what, i);
        }
        return doneCount(other);
    }

    private int doneCount(Now n) {
        int sum = 0;
        for (int p = 0; p < pieces(); p++) {
            sum += done(n, p) ? 1 : 0;
        }
        return sum;
    }

    int gallery(int n, int what) {
        if (n < 0 || n > 100 || what < 0 || what > 2) {
            return -1;
        }
        int room = 0;
        for (int k = 0; k < n; k++) {
            room += now.day + k <= 99 && !hail(now.day + k) ? 1 : 0;
        }
        return hang(0, room)[what];
    }

    /** The best of the PIECES from p on: sum, strokes, bits. The one with p is the first of several. */
    private int[] hang(int p, int room) {
        if (p == pieces()) {
            return new int[3];
        }
        int[] without = hang(p + 1, room);
        int need = sizeOf(p) - now.strokes[p];
        if (!paintable(now, p, false) || need > room) {
            return without;
        }
        int[] with = hang(p + 1, room - need).clone();
        with[0] += (int) put(pick(now, p), 0, 999);
        with[1] += need;
        with[2] |= 1 << p;
        return with[0] > without[0] || with[0] == without[0] && with[1] <= without[1] ? with : without;
    }

    // ---- what can be undone

    /** Who has it, the price, the ROUND; null: there can be none. */
    private int[] auction(int p) {
        if (!isPiece(p) || now.owner[p] < 0) {
            return null;
        }
        List<Integer> before = new ArrayList<>();
        for (int r = 1;; r++) {
            List<Integer> stay = new ArrayList<>();
            for (int s = 0; s < sitters(); s++) {
                if (now.dead[s] || now.owner[p] == s) {
                    continue;
                }
                Long e = law(now, "bid", p, s);
                long limit = Math.min(now.purse[s], e == null ? baseOf(p) : put(e, 0, 999));
                if (limit >= r) {
                    stay.add(s);
                }
            }
            if (stay.size() == 1) {
                return new int[] {stay.get(0), r, r};
            }
            if (stay.isEmpty()) {
                return before.isEmpty() ? new int[] {-2, 0, r} : new int[] {before.get(0), r - 1, r};
            }
            before = stay;
        }
    }

    int auction(int p, int what) {
        int[] end = auction(p);
        return end == null || what < 0 || what > 2 ? -1 : end[what];
    }

    private void remember() {
        past.add(now.copy());
        if (past.size() > 20) {
            past.remove(0);
        }
    }

    int sell(int p, int unused) {
        int[] end = auction(p);
        if (end == null) {
            return -1;
        }
        if (end[0] < 0) {
            return -2;
        }
        remember();
        now.purse[now.owner[p]] += end[1];
        now.purse[end[0]] -= end[1];
        own(now, p, end[0]);
        return end[1];
    }

    int dies(int s, int unused) {
        if (!isSitter(s) || now.dead[s]) {
            return -1;
        }
        remember();
        now.dead[s] = true;
        List<Integer> met = new ArrayList<>();
        Integer heir = told.heir.get(s);
        while (heir != null && now.dead[heir] && !met.contains(heir)) {
            met.add(heir);
            heir = told.heir.get(heir);
        }
        boolean none = heir == null || now.dead[heir];
        if (none) {
            now.painter += now.purse[s];
        } else {
            now.purse[heir] += now.purse[s];
        }
        now.purse[s] = 0;
        for (int p = 0; p < pieces(); p++) {
            if (now.owner[p] == s) {
                if (none) {
                    now.owner[p] = -2;
                } else {
                    own(now, p, heir);
                }
            }
        }
        return none ? -2 : heir;
    }

    private int[] best;

    private int placed(int[] takers) {
        int sum = 0;
        for (int t : takers) {
            sum += t < 9 ? 1 : 0;
        }
        return sum;
    }

    /** All ways in the order of the document: the first one of the greatest number is the MATCH. */
    private void match(int p, int[] takers) {
        if (p == pieces()) {
            if (best == null || placed(takers) > placed(best)) {
                best = takers.clone();
            }
            return;
        }
        for (int s = 0; s < sitters() && now.owner[p] == -2; s++) {
            boolean may = !now.dead[s];
            for (int q = 0; q < pieces(); q++) {
                may &= q >= p || takers[q] != s;
                may &= now.owner[q] != s || featureOf(q) != featureOf(p);
            }
            if (may) {
                takers[p] = s;
                match(p + 1, takers);
            }
        }
        takers[p] = 9;
        match(p + 1, takers);
    }

    private int[] matched() {
        best = null;
        match(0, new int[pieces()]);
        return best;
    }

    int match(int p, String unused) {
        if (!isPiece(p) || now.owner[p] != -2) {
            return -1;
        }
        int s = matched()[p];
        return s == 9 ? -2 : s;
    }

    int adopt() {
        int[] takers = matched();
        if (placed(takers) > 0) {
            remember();
        }
        for (int p = 0; p < pieces(); p++) {
            if (takers[p] < 9) {
                own(now, p, takers[p]);
            }
        }
        return placed(takers);
    }

    int forge(int p, int unused) {
        if (!isPiece(p) || now.lapsed[p] || done(now, p) || now.dead[sitterOf(p)]) {
            return -1;
        }
        remember();
        now.forged[p] = true;
        stroke(now, p);
        return now.strokes[p];
    }

    int owner(int p, int k) {
        if (!isPiece(p) || k < 0) {
            return -1;
        }
        List<Integer> owners = new ArrayList<>();
        for (int[] c : now.changes) {
            if (c[0] == p) {
                owners.add(c[1]);
            }
        }
        return k < owners.size() ? owners.get(k) : -2;
    }

    int give(int s, int coin) {
        if (!isSitter(s) || now.dead[s] || coin < 1 || coin > 999 || now.purse[s] + coin > 9999) {
            return -1;
        }
        remember();
        return now.purse[s] += coin;
    }

    int undo() {
        if (past.isEmpty()) {
            return -1;
        }
        now = past.remove(past.size() - 1);
        return past.size();
    }

    int keep() {
        image = now.copy();
        return now.day;
    }

    int back() {
        if (image == null) {
            return -1;
        }
        now = image.copy();
        past.clear();
        return now.day;
    }

    // ---- SEEN

    int see(int feature, boolean is) {
        if (feature < 0 || feature >= told.features.size() || seen.size() == 24) {
            return -1;
        }
        seen.add(new int[] {is ? 1 : 0, feature});
        return seen.size() - 1;
    }

    int strike(int which, int unused) {
        if (which < 0 || which >= seen.size() || seen.size() == 24) {
            return -1;
        }
        seen.add(new int[] {2, which});
        return seen.size() - 1;
    }

    boolean known(int n) {
        if (n < -1 || n > seen.size()) {
            return false;
        }
        knownBy = n;
        return true;
    }

    private boolean struck(int k, int n) {
        for (int j = k + 1; j < n; j++) {
            if (seen.get(j)[0] == 2 && seen.get(j)[1] == k && !struck(j, n)) {
                return true;
            }
        }
        return false;
    }

    int who() {
        int n = knownBy < 0 ? seen.size() : knownBy;
        int bits = 0;
        for (int s = 0; s < sitters(); s++) {
            boolean fits = true;
            for (int k = 0; k < n; k++) {
                int[] row = seen.get(k);
                if (row[0] != 2 && !struck(k, n)) {
                    fits &= (face(now, s) >> row[1] & 1) == row[0];
                }
            }
            bits |= fits ? 1 << s : 0;
        }
        return bits;
    }

    int forged() {
        int bits = 0;
        for (int p = 0; p < pieces(); p++) {
            bits |= now.forged[p] && !now.lapsed[p] ? 1 << p : 0;
        }
        return bits;
    }

    int count(int what, int unused) {
        switch (what) {
            case 0: return told.features.size();
            case 1: return sitters();
            case 2: return pieces();
            case 3: return told.kin.size();
            case 4: return told.knots;
            case 5: return now.day;
            case 6: return seen.size();
            case 7: return knownBy < 0 ? seen.size() : knownBy;
            case 8: return past.size();
            case 9: return now.painter;
            case 10: return Arrays.stream(now.purse).sum();
            case 11: return doneCount(now);
            default: return -1;
        }
    }
}
