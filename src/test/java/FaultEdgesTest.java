/** Each FAULT of a TEXT and its place, sentence by sentence, and promises 1 to 5 at their edges. */
public final class FaultEdgesTest {
    private static final String TWO = "feature f 10 2;feature g 4 1;sitter s 9 1;sitter t 9 1;";
    private static final String FIVE = "sitter a 1 1;sitter b 1 1;sitter c 1 1;sitter d 1 1;sitter e 1 1;";
    private static final int BLANKS = 0x20202020;

    private FaultEdgesTest() {
    }

    public static void main(String[] args) {
        firstAlong();
        leastOfOnePlace();
        withItsPlace();
        strange();
        strangeWords();
        cannotStandThere();
        moreMustCome();
        beyondWhatIsSaid();
        tooMany();
        thirteenDays();
        nineOpen();
        knots();
        nameAgain();
        wantedAgain();
        twinAgain();
        heirAgain();
        hailAgain();
        lawAgain();
        notTold();
        oneself();
        newObject();
        fed();
        fullTape();
        firstBytes();
        nothingBehindN();
        begunAnew();
        nothingLeftBehind();
        howManyLines();
        allElseStays();
        notSoMany();
        theFault();
        named();
        namedNone();
        Check.end();
    }

    private static void at(int kind, String ahead, String rest) {
        Check.fault(ahead + rest, kind, ahead.length());
    }

    private static void firstAlong() {
        Check.says("FAULTS, the first along the text");
        at(1, "", "x;feature f 0 1;");
        at(2, "feature f ", "0 0;x");
        at(2, "feature f ", "100 x;");
        at(1, "feature f ", "x 100;");
        at(4, TWO + "wants ", "x x 100;");
        at(4, TWO + "wants s ", "x 100;");
        at(2, TWO + "wants s f ", "100 x;");
        at(3, TWO + "wants s f 1;wants s ", "f 100;");
        at(5, TWO + "kin s ", "s x;");
        at(4, TWO + "kin s ", "x 1;");
        at(3, TWO + "twin s t;twin ", "s x;");
        at(4, TWO + "twin s t;twin ", "x s;");
        at(3, TWO + "heir s t;heir ", "s 1;");
        at(3, "hail 1;", "hail 100;");
        at(3, "law bid 1;law ", "bid 10000;");
        at(2, "law bid ", "10000 10000;");
        at(2, "hail 1 ", "100 x;");
        at(1, "hail 1 ", "x 100;");
        at(2, FIVE, "sitter a 1000 1;");
    }

    private static void leastOfOnePlace() {
        Check.says("(of one place the least)");
        // The 65th KNOT, and can't stand there: 1 ahead of 2.
        String full = "law pick not 1" + "+1".repeat(31);
        at(1, full + " ", "1;");
        at(1, full + " ", "base;");
        at(1, full + " ", "not 1;");
        at(1, full + ";law bid ", "+;");
        at(1, full + ";law bid ", "and;");
        at(1, "law pick not 1<1" + "+1".repeat(30) + " ", "<1;");
        // A number above 9999 and the 65th KNOT are both a FAULT 2.
        at(2, "law pick 1" + "+1".repeat(31) + "+", "10000;");
        // A ninth '(' that can't stand there.
        at(1, "law bid ((((((((1", "(2;");
        // An 11th WANTS, a 4th KIN is told by its word alone; twins of oneself when one is a twin.
        at(3, TWO + "twin s t;twin ", "s s;");
        at(3, TWO + "heir s t;heir ", "s s;");
        at(2, TWO + "kin s t f;kin s t f;kin s t f;", "kin s s f;");
        at(2, "hail 1 2 3 4 5 6 7 8 9 10 11 12 ", "100;");
        at(1, "feature ", "base 1 1;");
        at(1, TWO + "wants ", "law f 1;");
    }

    private static void withItsPlace() {
        Check.says("FAULTS, the first along the text (of one place the least), with its place:");
        at(1, "", "!");
        at(1, " \n\n ", "!");
        at(2, "\n\nfeature   f\n", "0 1;");
        at(2, "feature f 1 1; feature g ", "000100 1;");
        at(1, " ".repeat(699), "!");
    }

    private static void strange() {
        Check.says("1 a TOKEN that is none");
        for (String sign : new String[] {"!", "\"", "#", "$", "%", "&", "'", ",", ".", ":", "?", "@", "[", "\\", "]", "^", "_", "`", "{",
            "|", "}", "~", "\t", "\r", "\u0000", "\u007f", "\u0080", "\u00a0", "\u00ff", "A"}) {
            at(1, "", sign);
            at(1, "feature f 1 1;", sign);
            at(1, "feature f 1 ", sign + "1;");
            at(1, "law bid 1+", sign + ";");
            at(1, "law bid 1", sign + "2;");
        }
    }

    private static void strangeWords() {
        Check.says("(a word of more than 6 letters that is none of the language, too)");
        at(1, "", "abcdefg");
        at(1, "", "features f 1 1;");
        at(1, "feature ", "features 1 1;");
        at(1, "feature ", "abcdefg 1 1;");
        at(1, "feature ", "a".repeat(600) + " 1 1;");
        at(1, TWO + "wants ", "abcdefg f 1;");
        at(1, TWO + "wants s ", "fffffff 1;");
        at(1, TWO + "kin s ", "ttttttt f;");
        at(1, TWO + "twin ", "sssssss t;");
        at(1, TWO + "heir s ", "ttttttt;");
        at(1, "hail ", "abcdefg;");
        at(1, "law ", "abcdefg 1;");
        at(1, "law bid ", "abcdefg;");
        // One of 7 letters that is of the language is a TOKEN, one of 6 that isn't a W.
        Check.fine("feature f 1 1;");
        at(4, "feature f 1 1;wants ", "abcdef f 1;");
    }

    private static final String OPERANDS = " 1 base left purse owned day till paid ( ";
    private static final String COMPARED = " < <= = <> >= > ";
    private static final String JOINED = " + - * / and or ";
    private static final String TOKENS = "feature sitter wants kin twin heir hail law price pick bid or and not base left purse owned "
        + "day till paid x s t f g abcdefg 1 ; ( ) + - * / < <= = <> >= > ! & A";

    /** Each TOKEN behind what is told: one of those that can follow, or a FAULT at it, 1 but for the words that are told otherwise. */
    private static void follow(String ahead, String can, String otherwise) {
        for (String token : TOKENS.split(" ")) {
            int kind = 1;
            for (String other : otherwise.split(" ")) {
                kind = other.startsWith(token + ":") ? other.charAt(other.length() - 1) - '0' : kind;
            }
            if (!(" " + can + " ").contains(" " + token + " ")) {
                at(kind, ahead, token);
                at(kind, ahead, token + " 1;");
            } else if (token.equals(";")) {
                Check.fine(ahead + token);
            } else {
                at(1, ahead + token, "");
            }
        }
    }

    private static void cannotStandThere() {
        Check.says("or can't stand there");
        String lines = "feature sitter wants kin twin heir hail law";
        follow("", lines, "");
        follow(TWO + " ", lines, "");
        follow("law bid 1 ; ", lines, "");
        follow(TWO + "feature ", "x s t", "f:3 g:3");
        follow(TWO + "feature x ", "1", "");
        follow(TWO + "feature x 1 ", "1", "");
        follow(TWO + "feature x 1 1 ", ";", "");
        follow(TWO + "sitter ", "x f g", "s:3 t:3");
        follow(TWO + "sitter x ", "1", "");
        follow(TWO + "sitter x 1 ", "1", "");
        follow(TWO + "sitter x 1 1 ", ";", "");
        follow(TWO + "wants ", "s t", "x:4 f:4 g:4");
        follow(TWO + "wants s ", "f g", "x:4 s:4 t:4");
        follow(TWO + "wants s f ", "1", "");
        follow(TWO + "wants s f 1 ", ";", "");
        follow(TWO + "wants s f 1;wants s ", "g", "f:3 x:4 s:4 t:4");
        follow(TWO + "kin ", "s t", "x:4 f:4 g:4");
        follow(TWO + "kin s ", "t", "s:5 x:4 f:4 g:4");
        follow(TWO + "kin s t ", "f g", "x:4 s:4 t:4");
        follow(TWO + "kin s t f ", ";", "");
        follow(TWO + "twin ", "s t", "x:4 f:4 g:4");
        follow(TWO + "twin s ", "t", "s:5 x:4 f:4 g:4");
        follow(TWO + "twin s t ", ";", "");
        follow(TWO + "twin s t;twin ", "", "s:3 t:3 x:4 f:4 g:4");
        follow(TWO + "heir ", "s t", "x:4 f:4 g:4");
        follow(TWO + "heir s ", "t", "s:5 x:4 f:4 g:4");
        follow(TWO + "heir s t ", ";", "");
        follow(TWO + "heir s t;heir ", "t", "s:3 x:4 f:4 g:4");
        follow(TWO + "hail ", "1", "");
        follow(TWO + "hail 1 ", "1 ;", "");
        follow(TWO + "law ", "price pick bid", "");
        follow(TWO + "law pick 1;law ", "price bid", "pick:3");
        for (String ahead : new String[] {"", "( ", "not ", "1 and ", "1 or ", "not not ", "( ( ", "1 + ( ", "1 < ( ", "not ( not ", "1 < 2 and ",
            "1 < 2 or not ", "( 1 < 2 or "}) {
            follow(TWO + "law bid " + ahead, OPERANDS + "not", "");
        }
        for (String ahead : new String[] {"1 + ", "1 - ", "1 * ", "1 / ", "1 < ", "1 <= ", "1 = ", "1 <> ", "1 >= ", "1 > ", "not 1 + ", "1 < 2 * ",
            "( 1 ) - ", "1 and 2 < ", "( 1 < "}) {
            follow(TWO + "law bid " + ahead, OPERANDS, "");
        }
        for (String ahead : new String[] {"1 ", "base ", "( 1 ) ", "1 + 2 ", "1 * 2 ", "not 1 ", "1 and 2 ", "1 or not 2 ", "1 < 2 and 3 ", "( 1 < 2 ) ",
            "( 1 < 2 ) + 3 ", "not ( 1 = 2 ) "}) {
            follow(TWO + "law bid " + ahead, JOINED + COMPARED + ";", "");
        }
        for (String ahead : new String[] {"1 < 2 ", "1 <= 2 ", "1 = 2 ", "1 <> 2 ", "1 >= 2 ", "1 > 2 ", "1 + 2 < 3 * 4 ", "not 1 < 2 ",
            "1 or 2 < ( 3 ) ", "( 1 < 2 ) < 3 "}) {
            follow(TWO + "law bid " + ahead, JOINED + ";", "");
        }
        follow(TWO + "law bid ( 1 ", JOINED + COMPARED + ")", "");
        follow(TWO + "law bid ( 1 < 2 ", JOINED + ")", "");
        follow(TWO + "law bid ( ( 1 ) ", JOINED + COMPARED + ")", "");
        follow(TWO + "law bid 1 < ( 2 ", JOINED + COMPARED + ")", "");
        follow(TWO + "law bid 1 < ( 2 ) ", JOINED + ";", "");
    }

    private static void moreMustCome() {
        Check.says("(the length, if more must come)");
        String whole = "feature f 1 1;sitter s 1 1;sitter t 1 1;wants s f 1;kin s t f;twin s t;heir s t;hail 1 2;"
            + "law bid (1+2)*3<4 and not 5;";
        for (int n = 0; n <= whole.length(); n++) {
            String cut = whole.substring(0, n);
            if (cut.isEmpty() || cut.endsWith(";")) {
                Check.fine(cut);
            } else {
                // What is left of a word that is cut is a TOKEN that can't stand there.
                int place = isLetter(whole, n - 1) && isLetter(whole, n) ? startOfWord(whole, n - 1) : n;
                Check.fault(cut, 1, place);
                Check.fault(cut + " \n ", 1, place == n ? n + 3 : place);
            }
        }
    }

    private static boolean isLetter(String text, int at) {
        return at >= 0 && at < text.length() && text.charAt(at) >= 'a' && text.charAt(at) <= 'z';
    }

    private static int startOfWord(String text, int at) {
        int start = at;
        while (isLetter(text, start - 1)) {
            start--;
        }
        return start;
    }

    private static void beyondWhatIsSaid() {
        Check.says("2 too much (at it): a number beyond what is said");
        for (String number : new String[] {"0", "100", "4294967297", "18446744073709551617", "1" + "0".repeat(100) + "1"}) {
            at(2, "feature f ", number + " 1;");
        }
        for (String number : new String[] {"0", "10", "4294967297", "18446744073709551617"}) {
            at(2, "feature f 1 ", number + ";");
        }
        for (String number : new String[] {"1000", "4294967296", "18446744073709551616"}) {
            at(2, "sitter s ", number + " 1;");
        }
        for (String number : new String[] {"100", "4294967296", "18446744073709551616"}) {
            at(2, "sitter s 1 ", number + ";");
            at(2, TWO + "wants s f ", number + ";");
            at(2, "hail ", number + ";");
            at(2, "hail 1 2 3 4 5 6 7 8 9 10 11 ", number + ";");
        }
        for (String number : new String[] {"10000", "4294967296", "18446744073709551616"}) {
            at(2, "law bid ", number + ";");
            at(2, "law bid 1+(", number + ");");
        }
    }

    private static void tooMany() {
        Check.says("a sixth feature and so on (at the word of the LINE;");
        String features = "feature a 1 1;feature b 1 1;feature c 1 1;feature d 1 1;feature e 1 1;";
        at(2, features, "feature f 1 1;");
        at(2, features, "feature a 1 1;");
        at(2, features, "feature");
        at(2, features, "feature 1;");
        Check.fine(features + "sitter a 1 1;");
        at(2, FIVE, "sitter f 1 1;");
        at(2, FIVE, "sitter");
        at(2, FIVE, "sitter;");
        Check.fine(FIVE + "feature f 1 1;");
        StringBuilder ten = new StringBuilder(features + "sitter s 1 1;sitter t 1 1;sitter u 1 1;");
        for (char f = 'a'; f <= 'e'; f++) {
            ten.append("wants s ").append(f).append(" 1;wants t ").append(f).append(" 1;");
        }
        Check.fine(ten + "kin s t a;");
        at(2, ten.toString(), "wants u a 1;");
        at(2, ten.toString(), "wants s a 1;");
        at(2, ten.toString(), "wants x");
        String kin = TWO + "kin s t f;kin s t f;kin t s g;";
        at(2, kin, "kin s t f;");
        at(2, kin, "kin");
        Check.fine(kin + "twin s t;");
        String twins = FIVE + "twin a b;twin c d;";
        at(2, twins, "twin e a;");
        at(2, twins, "twin a b;");
        at(2, twins, "twin");
        Check.fine(twins + "heir a b;");
    }

    private static void thirteenDays() {
        Check.says("a 13th DAY of hail at it)");
        String twelve = "hail 1 2 3 4 5 6 7 8 9 10 11 12";
        Check.fine(twelve + ";");
        at(2, twelve + " ", "13;");
        at(2, twelve + " ", "1;");
        at(2, twelve + " ", "13 x");
        at(1, twelve + " ", "x;");
        at(1, twelve, "");
    }

    private static void nineOpen() {
        Check.says("a ninth '(' open");
        Check.fine("law bid ((((((((1))))))));");
        at(2, "law bid ((((((((", "(1)))))))));");
        at(2, "law bid ((((((((", "(");
        at(2, "law bid 1+(2*(((((((", "(1");
        // Those that are closed count no more.
        Check.fine("law bid ((((((((1)))))))+(2));");
        Check.fine("law bid " + "(1)+".repeat(20) + "1;");
        Check.fine("law bid ((((((((1))))))));law pick ((((((((1))))))));");
        at(2, "law bid (((((((1)+((", "(2");
    }

    private static void knots() {
        Check.says("a 65th KNOT of all E (N, NAMES, signs, not, and, or: one each).");
        String operands = "law pick 1" + "+1".repeat(31);
        // 63 KNOTS stand; the 64th may come, whatever it is, and the 65th not.
        Check.due("64", Check.told(operands + ";law bid base;").count(4), 64);
        Check.due("64 with (", Check.told("law pick (1)" + "+(1)".repeat(31) + ";law bid (base);").count(4), 64);
        Check.due("64 with not", Check.told(operands.replace("pick ", "pick not ") + ";").count(4), 64);
        for (String sign : new String[] {"+", "-", "*", "/", "<", "<=", "=", "<>", ">=", ">", " and ", " or "}) {
            at(2, operands + sign, "1;");
            at(2, operands + sign, "base;");
            Check.due("64 with " + sign, Check.told("law pick not 1" + "+1".repeat(30) + sign + "1;").count(4), 64);
            String spent = operands + ";law price 1;law bid ";
            at(2, spent, "1" + sign + "1;");
            at(2, "law price not 1" + "+1".repeat(31) + (sign.startsWith(" ") ? " " : ""), sign.trim() + "1;");
        }
        for (String one : new String[] {"1", "base", "left", "purse", "owned", "day", "till", "paid", "not 1"}) {
            at(2, operands + ";law price 1;law bid ", one + ";");
        }
        at(2, operands + ";law price 1;law bid ((", "1));");
        // '(' and ')' are none: of 64 there is room for them.
        Check.fine(operands + ";law price (((1)));");
        // An E of a TEXT ahead doesn't count.
        PaidFaces x = Check.told(operands + ";law bid 1;");
        Check.due("told anew", Check.tell(x, operands + ";law bid 1;"), 2);
        Check.due("told with a FAULT", Check.tell(x, operands + "!"), -1);
        Check.due("told anew", Check.tell(x, operands + ";law bid 1;"), 2);
    }

    private static void nameAgain() {
        Check.says("3 told already: a name of its kind (at W)");
        at(3, "feature f 1 1;feature ", "f 1 1;");
        at(3, "feature f 1 1;feature ", "f");
        at(3, "sitter s 1 1;sitter ", "s 2 2;");
        at(3, "feature a 1 1;feature b 1 1;feature c 1 1;feature d 1 1;feature ", "a 1 1;");
        at(3, "sitter a 1 1;sitter abcdef 1 1;sitter ", "abcdef 1 1;");
        Check.fine("feature f 1 1;sitter f 1 1;");
        Check.fine("sitter s 1 1;feature s 1 1;");
        Check.fine("feature f 1 1;feature ff 1 1;feature fff 1 1;");
        Check.fine("sitter abcdef 1 1;sitter abcdee 1 1;sitter bbcdef 1 1;");
    }

    private static void wantedAgain() {
        Check.says("a FEATURE wanted by the same (at it)");
        at(3, TWO + "wants s f 1;wants s ", "f 1;");
        at(3, TWO + "wants s g 1;wants t f 1;wants s f 1;wants t ", "f 2;");
        Check.fine(TWO + "wants s f 1;wants t f 1;wants s g 1;");
    }

    private static void twinAgain() {
        Check.says("one who is a twin (at W)");
        at(3, FIVE + "twin a b;twin ", "a c;");
        at(3, FIVE + "twin a b;twin ", "b c;");
        at(3, FIVE + "twin a b;twin c ", "a;");
        at(3, FIVE + "twin a b;twin c ", "b;");
        at(3, FIVE + "twin a b;twin ", "b a;");
        Check.fine(FIVE + "twin a b;twin d c;");
    }

    private static void heirAgain() {
        Check.says("the heir of the same (at the first W)");
        at(3, FIVE + "heir a b;heir ", "a c;");
        at(3, FIVE + "heir a b;heir ", "a b;");
        Check.fine(FIVE + "heir a b;heir b c;heir c a;heir d a;heir e b;");
    }

    private static void hailAgain() {
        Check.says("hail (at the word)");
        at(3, "hail 1;", "hail 2;");
        at(3, "hail 1;", "hail");
        at(3, "hail 1;law bid 1;", "hail 1;");
    }

    private static void lawAgain() {
        Check.says("a law of its KIND (at KIND).");
        for (String kind : new String[] {"price", "pick", "bid"}) {
            at(3, "law " + kind + " 1;law ", kind + " 2;");
            at(3, "law " + kind + " 1;law ", kind);
            at(3, "law price 1;law pick 1;law bid 1;law ", kind + " 1;");
        }
    }

    private static void notTold() {
        Check.says("4 a SITTER, FEATURE that isn't told ahead (at W).");
        String[] ahead = {"wants ", "wants s ", "kin ", "kin s ", "kin s t ", "twin ", "twin s ", "heir ", "heir s "};
        for (String words : ahead) {
            at(4, TWO + words, "x");
            at(4, TWO + words, "ss f 1;");
            boolean feature = words.equals("wants s ") || words.equals("kin s t ");
            at(4, TWO + words, feature ? "s" : "f");
        }
        at(4, "wants ", "s f 1;sitter s 1 1;feature f 1 1;");
        at(4, "sitter s 1 1;wants s ", "f 1;feature f 1 1;");
        at(4, "sitter s 1 1;heir s ", "t;sitter t 1 1;");
        // What a TEXT ahead told isn't told here.
        PaidFaces x = Check.told(TWO);
        Check.due("text", Check.tell(x, "twin s t;"), -1);
        Check.due("fault(0)", x.fault(0), 4);
        Check.due("fault(1)", x.fault(1), 5);
    }

    private static void oneself() {
        Check.says("5 kin, twin or heir of oneself (at the second W).");
        at(5, TWO + "kin s ", "s f;");
        at(5, TWO + "kin t ", "t x;");
        at(5, TWO + "twin s ", "s;");
        at(5, TWO + "twin t ", "t 1;");
        at(5, TWO + "heir s ", "s;");
        at(5, TWO + "heir t ", "t");
        at(5, TWO + "kin s t f;kin t ", "t f;");
    }

    // ---- promises 1 to 5

    private static void newObject() {
        Check.says("`PaidFaces()`: A TEXT without LINES; an empty TAPE.");
        PaidFaces x = new PaidFaces();
        for (int what = 0; what <= 11; what++) {
            Check.due("count(" + what + ")", x.count(what), 0);
        }
        Check.due("text(1)", x.text(1), -2);
        Check.due("named", x.named(0, 0), -1);
        Check.due("named", x.named(1, 0), -1);
        Check.due("look", Check.look(x, 0, 0), Check.INDEX);
        for (int what = 0; what < 8; what++) {
            Check.due("piece(0, " + what + ")", x.piece(0, what), -1);
        }
        Check.due("law", x.law(0, 0, 0), Long.MIN_VALUE);
        Check.due("log", x.log(0, 0), -1);
        Check.due("gallery", x.gallery(100, 0), 0);
        Check.due("auction", x.auction(0, 0), -1);
        Check.due("sell", x.sell(0), -1);
        Check.due("dies", x.dies(0), -1);
        Check.due("match", x.match(0), -1);
        Check.due("adopt", x.adopt(), 0);
        Check.due("forge", x.forge(0), -1);
        Check.due("owner", x.owner(0, 0), -1);
        Check.due("give", x.give(0, 1), -1);
        Check.due("see", x.see(0, true), -1);
        Check.due("strike", x.strike(0), -1);
        Check.due("known(0)", x.known(0), true);
        Check.due("known(1)", x.known(1), false);
        Check.due("who", x.who(), 0);
        Check.due("forged", x.forged(), 0);
        Check.due("tried(0, 0, 9)", x.tried(0, 0, 9), 0);
        Check.due("tried(1, 0, 9)", x.tried(1, 0, 9), -1);
        Check.due("tried(2, 0, 9)", x.tried(2, 0, 9), -1);
        Check.due("undo", x.undo(), -1);
        Check.due("back", x.back(), -1);
        Check.due("fault(0)", x.fault(0), 0);
        Check.due("fault(1)", x.fault(1), -1);
        Check.due("keep", x.keep(), 0);
        Check.due("days(100)", x.days(100), 100);
        Check.due("log(99, 1)", x.log(99, 1), -1);
        Check.due("back", x.back(), 0);
    }

    private static void fed() {
        Check.says("Twenty bytes come behind the TAPE, four of each number, the highest first: how many it has;");
        PaidFaces x = new PaidFaces();
        // "sitter s 7 1;feature f" and "g 1 2;" with a place for each byte.
        Check.due("feed", x.feed(0x73697474, 0x65722073, 0x20372031, 0x3b666561, 0x74757265), 20);
        Check.due("feed", x.feed(0x20666720, 0x31203220, 0x3b000000, 0x80ffffff, -1), 40);
        Check.due("text(29)", x.text(29), 2);
        Check.due("count(10)", x.count(10), 7);
        Check.due("named", x.named(0, Check.letters("fg")), 0);
        // Each byte of a number stands at its own place.
        for (int k = 0; k < 20; k++) {
            int[] five = {BLANKS, BLANKS, BLANKS, BLANKS, BLANKS};
            five[k / 4] = BLANKS & ~(255 << 24 - k % 4 * 8) | 0x80 << 24 - k % 4 * 8;
            Check.due("feed", x.feed(five[0], five[1], five[2], five[3], five[4]), 20);
            Check.due("text(20)", x.text(20), -1);
            Check.due("place of byte " + k, x.fault(1), k);
        }
        x.feed(BLANKS, BLANKS, BLANKS, BLANKS, BLANKS);
        x.feed(BLANKS, BLANKS, BLANKS, BLANKS, 0x20202021);
        Check.due("text(40)", x.text(40), -1);
        Check.due("behind the TAPE", x.fault(1), 39);
    }

    private static void fullTape() {
        Check.says("NONE, and none come, if it would have more than 700.");
        PaidFaces x = new PaidFaces();
        for (int k = 1; k <= 35; k++) {
            Check.due("feed " + k, x.feed(BLANKS, BLANKS, BLANKS, BLANKS, k == 35 ? 0x2020203b : BLANKS), 20 * k);
        }
        for (int k = 0; k < 3; k++) {
            Check.due("feed on a full TAPE", x.feed(0, 0, 0, 0, 0), -1);
        }
        Check.due("none came", x.text(701), -2);
        Check.due("none came", x.text(720), -2);
        Check.due("text(700)", x.text(700), -1);
        Check.due("the 700th byte is as it was", x.fault(1), 699);
        Check.due("feed on an empty TAPE", x.feed(BLANKS, BLANKS, BLANKS, BLANKS, BLANKS), 20);
        // A TEXT of 700 bytes, of as many TOKENS as can be.
        StringBuilder most = new StringBuilder();
        for (int k = 0; k < 35; k++) {
            most.append("x;;;;;;;;;;;;;;;;;;;");
        }
        Check.due("700 TOKENS", Check.tell(new PaidFaces(), most.toString()), -1);
        String blanks = " ".repeat(700 - 7);
        Check.fine(blanks + "hail 1;");
        Check.fine("hail 1;" + blanks);
        at(1, blanks + "hail 1", "!");
        at(1, blanks + " hail 1", "");
        Check.fine("hail " + "0".repeat(693) + "1;");
        at(2, "hail ", "1" + "0".repeat(693) + ";");
        at(1, "", "a".repeat(700));
    }

    private static void firstBytes() {
        Check.says("The TAPE's first n bytes (it is empty then) are the TEXT");
        PaidFaces x = new PaidFaces();
        Check.feed(x, "hail 1;law bid 1;law pick 1;");
        Check.due("text(17)", x.text(17), 2);
        Check.due("empty", x.text(1), -2);
        Check.due("feed", x.feed(BLANKS, BLANKS, BLANKS, BLANKS, BLANKS), 20);
        Check.due("none of it has stayed", x.text(20), 0);
        Check.feed(x, "hail 1;!");
        Check.due("text(7)", x.text(7), 1);
        Check.feed(x, "hail 1;!");
        Check.due("text(8)", x.text(8), -1);
        Check.due("empty behind a FAULT, too", x.text(1), -2);
        Check.feed(x, "hail 1;");
        Check.due("text(0)", x.text(0), 0);
        Check.due("empty behind text(0), too", x.text(1), -2);
        Check.feed(x, "hail 12;");
        Check.due("cut in a number", x.text(6), -1);
        Check.due("its length", x.fault(1), 6);
    }

    /** What lies on the TAPE behind the first n bytes isn't looked at, wherever it is cut. */
    private static void nothingBehindN() {
        Check.says("The TAPE's first n bytes (it is empty then) are the TEXT");
        String whole = "feature f 99 9;sitter s 10 10;sitter t 1 1;wants s f 11;hail 10 20;law bid 10<=2 or 30>=4 and not 5<>67+base;";
        for (int n = 0; n <= whole.length(); n++) {
            PaidFaces cut = new PaidFaces();
            int lines = Check.tell(cut, whole.substring(0, n));
            PaidFaces x = new PaidFaces();
            Check.feed(x, whole);
            Check.due("text(" + n + ")", x.text(n), lines);
            Check.due("fault(0) of " + n, x.fault(0), cut.fault(0));
            Check.due("fault(1) of " + n, x.fault(1), cut.fault(1));
            // Nor what an earlier TEXT has left there.
            Check.due("text of more", Check.tell(x, whole), 6);
            Check.due("text again", Check.tell(x, whole.substring(0, n)), lines);
            Check.due("fault(0) of " + n + " again", x.fault(0), cut.fault(0));
            Check.due("fault(1) of " + n + " again", x.fault(1), cut.fault(1));
        }
        Check.due("cut behind <", Check.tell(new PaidFaces(), "law bid 1<"), -1);
        PaidFaces x = new PaidFaces();
        Check.feed(x, "law bid 1<=2;");
        Check.due("cut within <=", x.text(10), -1);
        Check.due("its length", x.fault(1), 10);
    }

    private static void begunAnew() {
        Check.says("(DAY 0, nothing SEEN, all KNOWN, no IMAGE, nothing to undo then)");
        String text = TWO + "wants s g 0;wants t f 50;wants s f 9;law bid 1;";
        for (String anew : new String[] {text, "", "hail 1;"}) {
            PaidFaces x = Check.told(text);
            x.forge(1);
            x.days(7);
            x.see(0, true);
            x.strike(0);
            x.known(1);
            x.keep();
            x.give(0, 5);
            x.forge(2);
            x.forge(2);
            Check.due("sell", x.sell(2), 1);
            x.dies(1);
            x.known(0);
            Check.due("FORGED", x.forged(), 6);
            Check.due("text", Check.tell(x, anew) >= 0, true);
            Check.due("DAY 0", x.count(5), 0);
            Check.due("no DAY has gone by", x.log(0, 0), -1);
            Check.due("nothing SEEN", x.count(6), 0);
            Check.due("by none", x.count(7), 0);
            Check.due("no such one to strike", x.strike(0), -1);
            Check.due("no IMAGE", x.back(), -1);
            Check.due("nothing to undo", x.count(8), 0);
            Check.due("nothing to undo", x.undo(), -1);
            Check.due("no coin of the PAINTER", x.count(9), 0);
            Check.due("none DONE", x.count(11), 0);
            Check.due("none FORGED", x.forged(), 0);
            if (x.count(0) > 0) {
                x.see(0, true);
                x.see(1, true);
                Check.due("all KNOWN", x.count(7), 2);
                Check.due("all KNOWN", x.who(), 0);
                for (int s = 0; s < 2; s++) {
                    Check.due("living", Check.look(x, s, 1), 1);
                    Check.due("purse as told", Check.look(x, s, 0), 9);
                }
                for (int p = 0; p < 3; p++) {
                    Check.due("open", x.piece(p, 6), 0);
                    Check.due("nothing PAID", x.piece(p, 3), 0);
                    Check.due("no STROKES", x.piece(p, 4), 0);
                    Check.due("no OWNER", x.piece(p, 7), -1);
                    Check.due("no OWNER ahead", x.owner(p, 0), -2);
                }
            }
        }
    }

    /** The TEXTS ahead of one leave nothing behind in it, whether they stood or not. */
    private static void nothingLeftBehind() {
        Check.says("The TAPE's first n bytes (it is empty then) are the TEXT (DAY 0,");
        String much = FIVE + "feature a 1 1;feature b 1 1;feature c 1 1;feature d 1 1;feature e 1 1;wants a a 1;wants b a 2;wants a b 3;"
            + "kin a b a;kin a b b;kin a b c;twin a b;twin c d;heir a b;heir b c;heir c d;heir d e;heir e a;"
            + "hail 0 1 2 3 4 5 6 7 8 98 99;law price 7;law pick 1+1+1+1+1+1+1+1+1+1+1+1+1;law bid 2*(3-1)";
        String small = TWO + "wants t g 5;wants s g 5;law bid ((((((((2+3*4))))))));law pick 1+" + "1+".repeat(24) + "1;";
        PaidFaces x = new PaidFaces();
        String[] ahead = {much + ";", much, much + "+", much + ")", "law bid 1+2*(3-(not not 4<5", "law bid ((((((((", "law bid not not not not",
            "law bid 1<(2<(3<(4", "hail 1 2 3", "law pick 1" + "+1".repeat(31) + ";law bid 1;"};
        for (String one : ahead) {
            for (int again = 0; again < 9; again++) {
                Check.tell(x, one);
                x.days(again);
            }
            Check.due("text behind " + one, Check.tell(x, small), 8);
            int[] counts = {2, 2, 2, 0, 56, 0, 0, 0, 0, 0, 18, 0};
            for (int what = 0; what < counts.length; what++) {
                Check.due("count(" + what + ")", x.count(what), counts[what]);
            }
            Check.due("bid", x.law(2, 0, 0), 14);
            Check.due("pick", x.law(1, 0, 0), 26);
            Check.due("no price", x.law(0, 0, 0), Long.MIN_VALUE);
            for (int s = 0; s < 2; s++) {
                Check.due("no twin", Check.look(x, s, 4), -1);
                Check.due("no heir", Check.look(x, s, 5), -1);
            }
            Check.due("FEATURE a", x.named(0, Check.letters("a")), -1);
            Check.due("SITTER a", x.named(1, Check.letters("a")), -1);
            x.forge(0);
            Check.due("no KIN", Check.look(x, 0, 2), 0);
            x.days(4);
            Check.due("no HAIL on 3: t has it, s has PAID 4", x.log(3, 1), 1);
        }
    }

    private static void howManyLines() {
        Check.says("how many LINES;");
        PaidFaces x = new PaidFaces();
        Check.due("none", Check.tell(x, "  "), 0);
        Check.due("one", Check.tell(x, "hail 1 2 3;"), 1);
        Check.due("six", Check.tell(x, TWO + "hail 1;law bid 1 or 1;"), 6);
        String most = "feature a 1 1;feature b 1 1;feature c 1 1;feature d 1 1;feature e 1 1;" + FIVE
            + "wants a a 1;wants a b 1;wants a c 1;wants a d 1;wants a e 1;wants b a 1;wants b b 1;wants b c 1;wants b d 1;wants b e 1;"
            + "kin a b a;kin a b b;kin a b c;twin a b;twin c d;heir a b;heir b a;heir c a;heir d a;heir e a;"
            + "hail 1;law price 1;law pick 1;law bid 1;";
        Check.due("as many as can be", Check.tell(x, most), 34);
        Check.due("10 PIECES", x.count(2), 10);
    }

    private static void allElseStays() {
        Check.says("NONE with a FAULT, all else stays;");
        String text = TWO + "wants s f 50;wants t g 50;kin s t f;law price 2;law bid 1;";
        PaidFaces x = Check.told(text);
        x.days(3);
        x.see(0, true);
        x.see(1, true);
        x.known(1);
        x.keep();
        x.give(0, 5);
        // A FAULT at the very end, behind LINES that tell all otherwise.
        String other = "feature x 9 9;sitter y 7 7;wants y x 1;hail 3 4;law price 77;law pick 1+1+1;law bid 5;twin y ";
        for (String rest : new String[] {"y;", "z;", "", "!"}) {
            Check.due("text", Check.tell(x, other + rest), -1);
            int[] counts = {2, 2, 2, 1, 2, 3, 2, 1, 1, 4, 19, 1};
            for (int what = 0; what < counts.length; what++) {
                Check.due("count(" + what + ")", x.count(what), counts[what]);
            }
            Check.due("the TAPE is empty", x.text(1), -2);
            Check.due("named", x.named(0, Check.letters("g")), 1);
            Check.due("named", x.named(1, Check.letters("y")), -1);
            Check.due("PRICE", x.piece(0, 5), 2);
            Check.due("no pick", x.law(1, 0, 0), Long.MIN_VALUE);
            Check.due("bid", x.law(2, 0, 0), 1);
            Check.due("no twin", Check.look(x, 0, 4), -1);
            Check.due("log", x.log(0, 0), 2);
        }
        Check.due("undo", x.undo(), 0);
        Check.due("back", x.back(), 3);
        Check.due("no hail on 3", x.days(1), 4);
        Check.due("painted on 3", x.log(3, 1), 1);
    }

    private static void notSoMany() {
        Check.says("-2, and the TAPE stays: there are not so many, n is below 0.");
        PaidFaces x = Check.told(TWO);
        Check.feed(x, "hail 1;");
        for (int n : new int[] {21, 22, 700, 701, Integer.MAX_VALUE, -1, -20, -700, Integer.MIN_VALUE}) {
            Check.due("text(" + n + ")", x.text(n), -2);
            Check.due("the TEXT stays", x.count(0), 2);
        }
        Check.due("the TAPE stays", x.feed(BLANKS, BLANKS, BLANKS, BLANKS, BLANKS), 40);
        Check.due("text(40)", x.text(40), 1);
    }

    private static void theFault() {
        Check.says("Of the latest text() that was not -2, what 0: its FAULT (0), 1: its place (NONE without). NONE for another what.");
        PaidFaces x = new PaidFaces();
        int[] others = {-1, 2, 3, Integer.MAX_VALUE, Integer.MIN_VALUE};
        Check.due("no text: fault(0)", x.fault(0), 0);
        Check.due("no text: fault(1)", x.fault(1), -1);
        String[] texts = {"!", "feature f 0 1;", "hail 1;hail 1;", "twin a b;", "sitter a 1 1;heir a a;", "hail 1;", " !", ""};
        int[][] faults = {{1, 0}, {2, 10}, {3, 7}, {4, 5}, {5, 20}, {0, -1}, {1, 1}, {0, -1}};
        for (int k = 0; k < texts.length; k++) {
            Check.tell(x, texts[k]);
            for (int again = 0; again < 2; again++) {
                Check.due("fault(0) of " + texts[k], x.fault(0), faults[k][0]);
                Check.due("fault(1) of " + texts[k], x.fault(1), faults[k][1]);
                for (int what : others) {
                    Check.due("fault(" + what + ")", x.fault(what), -1);
                }
                // One that is -2 changes nothing.
                Check.due("text(1)", x.text(1), -2);
                Check.due("text(-1)", x.text(-1), -2);
            }
        }
    }

    private static void named() {
        Check.says("The number of a FEATURE (what 0), SITTER (1) by its letters, 5 bits each (a is 1; the first one highest of six, "
            + "0 behind the last one);");
        PaidFaces x = Check.told("feature a 1 1;feature zzzzzz 1 1;feature ab 1 1;feature abcdef 1 1;sitter zzzzzz 1 1;sitter b 1 1;");
        Check.due("a", x.named(0, 1 << 25), 0);
        Check.due("zzzzzz", x.named(0, 26 << 25 | 26 << 20 | 26 << 15 | 26 << 10 | 26 << 5 | 26), 1);
        Check.due("ab", x.named(0, 1 << 25 | 2 << 20), 2);
        Check.due("abcdef", x.named(0, 1 << 25 | 2 << 20 | 3 << 15 | 4 << 10 | 5 << 5 | 6), 3);
        Check.due("zzzzzz of the SITTERS", x.named(1, 26 << 25 | 26 << 20 | 26 << 15 | 26 << 10 | 26 << 5 | 26), 0);
        Check.due("b of the SITTERS", x.named(1, 2 << 25), 1);
    }

    private static void namedNone() {
        Check.says("NONE: there is none such.");
        PaidFaces x = Check.told("feature a 1 1;feature ab 1 1;sitter b 1 1;");
        int a = 1 << 25;
        for (int letters : new int[] {0, 1, -1, 1 << 20, 2 << 25, a | 1, a | 3 << 20, a | 1 << 30, a | 1 << 31, a << 5, a >> 5,
            Integer.MAX_VALUE, Integer.MIN_VALUE}) {
            Check.due("named(0, " + letters + ")", x.named(0, letters), -1);
        }
        Check.due("a of the SITTERS", x.named(1, a), -1);
        for (int what : new int[] {-1, 2, 3, Integer.MAX_VALUE, Integer.MIN_VALUE}) {
            Check.due("named(" + what + ", a)", x.named(what, a), -1);
        }
        x = Check.told("feature a 1 1;sitter a 1 1;");
        Check.due("text", Check.tell(x, ""), 0);
        Check.due("of a TEXT ahead", x.named(0, a), -1);
        Check.due("of a TEXT ahead", x.named(1, a), -1);
        Check.due("no letters", x.named(0, 0), -1);
    }
}
