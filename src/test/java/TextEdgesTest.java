/** What the Terms say of a TEXT, sentence by sentence, at their edges: how it is written and how much it holds. */
public final class TextEdgesTest {
    private static final String TWO = "feature f 10 2;feature g 4 1;sitter s 9 1;sitter t 9 1;";
    private static final String[] LANGUAGE = {"feature", "sitter", "wants", "kin", "twin", "heir", "hail", "law", "price", "pick",
        "bid", "or", "and", "not", "base", "left", "purse", "owned", "day", "till", "paid"};
    private static final String[] NAMES = {"base", "left", "purse", "owned", "day", "till", "paid"};
    private static final String[] COMPARISONS = {"<", "<=", "=", "<>", ">=", ">"};
    /** Numbers that an int, a long, or as many digits as a tape holds would take for a small one. */
    private static final String[] WRAPPING = {"2147483648", "4294967296", "4294967297", "4294967305", "9223372036854775808",
        "18446744073709551616", "18446744073709551617", "18446744073709551625", "1" + "0".repeat(63) + "1"};

    private TextEdgesTest() {
    }

    public static void main(String[] args) {
        lines();
        lineOfEachKind();
        kinds();
        letters();
        lengthsOfWords();
        digits();
        blanks();
        eithers();
        boths();
        denials();
        comparisons();
        sums();
        products();
        parts();
        names();
        numbersOfTerms();
        signsOfTwo();
        features();
        sitters();
        wants();
        kin();
        twins();
        heirs();
        hail();
        numbering();
        Check.end();
    }

    /** A FAULT at the place where the rest begins. */
    private static void at(int kind, String ahead, String rest) {
        Check.fault(ahead + rest, kind, ahead.length());
    }

    private static void lines() {
        Check.says("A TEXT: { LINE ';' }.");
        Check.fine("");
        Check.fine("\n \n");
        Check.fine("hail 1;");
        Check.fine("hail 1;law bid 1;law pick 1;");
        at(1, "", ";");
        at(1, " ", ";");
        at(1, "hail 1;", ";");
        at(1, "hail 1", "");
        at(1, "hail 1 \n", "");
        at(1, "hail 1 ", "law bid 1;");
        at(1, "hail 1;law bid 1", "");
        at(1, "", "x;");
        at(1, "", "1;");
        at(1, "", "(");
        at(1, "", "base;");
        at(1, "", "price 1;");
        at(1, "hail 1;", "not;");
    }

    private static void lineOfEachKind() {
        Check.says("LINE: feature W N N | sitter W N N | wants W W N | kin W W W | twin W W | heir W W | hail N { N } | law KIND E.");
        String[][] all = {{"feature ", "h ", "1 ", "1 "}, {"sitter ", "u ", "1 ", "1 "}, {"wants ", "s ", "f ", "1 "},
            {"kin ", "s ", "t ", "f "}, {"twin ", "s ", "t "}, {"heir ", "s ", "t "}, {"hail ", "1 "}, {"law ", "bid ", "1 "}};
        for (String[] line : all) {
            String ahead = TWO;
            for (int k = 0; k < line.length; k++) {
                if (k > 0) {
                    at(1, ahead, "");
                    at(1, ahead, ";");
                    at(1, ahead, line[k].equals("1 ") ? "x;" : "7;");
                    if (!line[0].equals("law ") || k == 1) {
                        at(1, ahead, "(1);");
                    }
                    at(1, ahead, "!");
                }
                ahead += line[k];
            }
            Check.fine(ahead + ";");
            at(1, ahead, "");
            at(1, ahead, "x;");
            at(1, ahead, "!;");
            at(1, ahead, "hail 1;");
            if (!line[0].equals("hail ")) {
                at(1, ahead, "1;");
            }
        }
    }

    private static void kinds() {
        Check.says("KIND: price | pick | bid.");
        for (String word : LANGUAGE) {
            if (word.equals("price") || word.equals("pick") || word.equals("bid")) {
                Check.fine("law " + word + " 1;");
            } else {
                at(1, "law ", word + " 1;");
            }
        }
        at(1, "law ", "prices 1;");
        at(1, "law ", "pic 1;");
        at(1, "law ", "(1);");
        Check.fine("law price 1;law pick 1;law bid 1;");
    }

    private static void letters() {
        Check.says("Words: small letters in a row");
        Check.fine("feature a 1 1;feature z 1 1;feature az 1 1;");
        Check.fine("feature f1 1;");
        Check.fine("law bid not1or 2and not(3);");
        at(1, "feature ", "` 1 1;");
        at(1, "feature ", "{ 1 1;");
        at(1, "feature ", "A 1 1;");
        at(1, "feature ", "Z 1 1;");
        at(1, "feature f", "G 1 1;");
        at(1, "feature f", "_ 1 1;");
        at(1, "", "FEATURE f 1 1;");
        at(1, "", "Feature f 1 1;");
        at(1, "", "fea ture f 1 1;");
        at(1, "", "featuref 1 1;");
        at(1, "law bid ", "notbase;");
        at(1, "law bid ", "no t 1;");
    }

    private static void lengthsOfWords() {
        Check.says("W: one of 1 .. 6 letters, none of those of the language");
        for (String kind : new String[] {"feature ", "sitter "}) {
            Check.fine(kind + "a 1 1;");
            Check.fine(kind + "abcdef 1 1;");
            at(1, kind, "abcdefg 1 1;");
            at(1, kind, "1 1;");
            for (String word : LANGUAGE) {
                at(1, kind, word + " 1 1;");
                Check.fine(kind + "x" + word.substring(0, Math.min(5, word.length())) + " 1 1;");
            }
        }
        Check.fine("feature ors 1 1;feature o 1 1;feature bas 1 1;feature bases 1 1;feature kinn 1 1;");
        for (String word : LANGUAGE) {
            at(1, TWO + "wants ", word + " f 1;");
            at(1, TWO + "wants s ", word + " 1;");
            at(1, TWO + "kin s t ", word + ";");
            at(1, TWO + "twin s ", word + ";");
            at(1, TWO + "heir ", word + " t;");
        }
        // What has as many letters ahead as a name has isn't that name.
        at(1, "sitter abcdef 1 1;feature f 1 1;wants ", "abcdefg f 1;");
        at(1, "sitter s 1 1;feature abcdef 1 1;wants s ", "abcdeff 1;");
    }

    private static void digits() {
        Check.says("N: digits.");
        Check.fine("feature f 01 09;");
        Check.fine("feature f " + "0".repeat(600) + "99 9;");
        Check.fine("hail 01 23 45 67 89;");
        at(1, "feature f ", "-1 1;");
        at(1, "feature f ", "+1 1;");
        at(1, "feature f 1", ".5 1;");
        at(1, "feature f 1", "/1;");
        at(1, "feature f 1", ":1;");
        at(1, "feature f 1", "x1;");
        at(1, "feature f 11", ";");
        at(1, "hail ", ";");
        at(1, "hail 1", "o;");
    }

    private static void blanks() {
        Check.says("Blanks 10, 32.");
        Check.fine("\n\n feature\n\nf  1\n1 \n;\n");
        for (int b = 0; b < 256; b++) {
            String sign = String.valueOf((char) b);
            if (b == 10 || b == 32 || b >= '0' && b <= '9') {
                Check.fine("hail 1" + sign + ";");
            } else {
                at(1, "hail 1" + (b == ';' ? ";" : ""), b == ';' ? ";" : sign + ";");
            }
            if (b >= '0' && b <= '9' || b == '+' || b == '-' || b == '*' || b == '/' || b == '<' || b == '=' || b == '>') {
                Check.fine("law bid 1" + sign + "2;");
            } else if (b == 10 || b == 32 || b == ';') {
                at(1, "law bid 1" + sign, "2;");
            } else {
                at(1, "law bid 1", sign + "2;");
            }
        }
    }

    private static void eithers() {
        Check.says("E: A { or A }.");
        Check.fine("law bid 1 or 2;");
        Check.fine("law bid 1 or 2 and 3 or not 4 or 5<6;");
        at(1, "law bid ", "or 1;");
        at(1, "law bid 1 or ", ";");
        at(1, "law bid 1 or ", "or 2;");
        at(1, "law bid 1 or ", "and 2;");
        at(1, "law bid (1 or ", ");");
        at(1, "law bid 1 or", "");
    }

    private static void boths() {
        Check.says("A: B { and B }.");
        Check.fine("law bid 1 and 2;");
        Check.fine("law bid 1 and not 2 and 3<4 and 5;");
        at(1, "law bid ", "and 1;");
        at(1, "law bid 1 and ", ";");
        at(1, "law bid 1 and ", "and 2;");
        at(1, "law bid 1 and ", "or 2;");
        at(1, "law bid 1 and", "");
    }

    private static void denials() {
        Check.says("B: not B | C.");
        Check.fine("law bid not 1;");
        Check.fine("law bid not not not 1<2;");
        Check.fine("law bid (not 1)+(not 2)<(not 3)*(not 4);");
        at(1, "law bid not ", ";");
        at(1, "law bid not ", "and 1;");
        at(1, "law bid 1 ", "not 2;");
        at(1, "law bid 1 ", "not;");
        for (String sign : new String[] {"+", "-", "*", "/", "<", "<=", "=", "<>", ">=", ">"}) {
            at(1, "law bid 1" + sign + " ", "not 2;");
            at(1, "law bid not 1" + sign + " ", "not 2;");
            at(1, "law bid not ", sign + "2;");
            Check.fine("law bid 1" + sign + "(not 2);");
        }
        Check.fine("law bid 1 or not 2 and not 3;");
    }

    private static void comparisons() {
        Check.says("C: S [ ( < | <= | = | <> | >= | > ) S ].");
        for (String one : COMPARISONS) {
            Check.fine("law bid 1+2" + one + "3*4;");
            at(1, "law bid ", one + "1;");
            at(1, "law bid 1" + one, ";");
            at(1, "law bid (1" + one, ");");
            for (String other : COMPARISONS) {
                at(1, "law bid 1" + one + "2 ", other + "3;");
                at(1, "law bid not 1" + one + "2*3+4 ", other + "3;");
                at(1, "law bid 1 or (1" + one + "2 ", other + "3);");
                at(1, "law bid 1" + one + " ", other + "3;");
                Check.fine("law bid (1" + one + "2)" + other + "3;");
                Check.fine("law bid 1" + one + "(2" + other + "3);");
                Check.fine("law bid 1" + one + "2 and 3" + other + "4 or 5" + one + "6;");
            }
        }
    }

    private static void sums() {
        Check.says("S: T { ( + | - ) T }.");
        for (String sign : new String[] {"+", "-"}) {
            Check.fine("law bid 1" + sign + "2" + sign + "3;");
            at(1, "law bid ", sign + "1;");
            at(1, "law bid 1" + sign, ";");
            at(1, "law bid 1" + sign, "+2;");
            at(1, "law bid 1" + sign, "-2;");
            at(1, "law bid 1" + sign, "*2;");
            at(1, "law bid (", sign + "1);");
        }
    }

    private static void products() {
        Check.says("T: P { ( * | / ) P }.");
        for (String sign : new String[] {"*", "/"}) {
            Check.fine("law bid 1" + sign + "2" + sign + "3;");
            at(1, "law bid ", sign + "1;");
            at(1, "law bid 1" + sign, ";");
            at(1, "law bid 1" + sign, "*2;");
            at(1, "law bid 1" + sign, "/2;");
            at(1, "law bid 1" + sign, "-2;");
        }
    }

    private static void parts() {
        Check.says("P: N | NAME | '(' E ')'");
        for (String word : LANGUAGE) {
            boolean isName = false;
            for (String name : NAMES) {
                isName |= name.equals(word);
            }
            if (isName) {
                Check.fine("law bid " + word + ";");
                Check.fine("law bid (1-" + word + ")*2;");
            } else if (!word.equals("not")) {
                at(1, "law bid ", word + ";");
                at(1, "law bid 1+", word + ";");
            }
        }
        at(1, TWO + "law bid ", "f;");
        at(1, TWO + "law bid ", "s;");
        at(1, "law bid ", "bases;");
        at(1, "law bid (", ");");
        at(1, "law bid (1", ";");
        at(1, "law bid ((1)", ";");
        at(1, "law bid (1", "");
        at(1, "law bid 1", ");");
        at(1, "law bid (1)", ");");
        at(1, "law bid ", ")");
        at(1, "law bid 1", "(2);");
        at(1, "law bid (1)", "(2);");
        at(1, "law bid (1)", "2;");
        at(1, "law bid 1 ", "base;");
        at(1, "law bid base ", "1;");
        at(1, "law bid ", ";");
        Check.fine("law bid (1 or 2 and not 3<4);");
    }

    private static void names() {
        Check.says("NAME: base left purse owned day till paid.");
        PaidFaces x = Check.told(TWO + "wants s f 9;law bid base+left+purse+owned+day+till+paid;");
        Check.due("all seven", x.law(2, 0, 1), 10 + 2 + 9 + 9);
        Check.due("count(4)", x.count(4), 13);
        for (String word : new String[] {"bases", "bas", "lefts", "purses", "own", "owner", "days", "da", "tilll", "til", "pay", "rate", "round", "price"}) {
            at(1, TWO + "law bid ", word + ";");
        }
    }

    private static void numbersOfTerms() {
        Check.says("N of E 0 .. 9999.");
        Check.fine("law bid 0;law pick 9999;law price 00009999+0000;");
        at(2, "law bid ", "10000;");
        at(2, "law bid 1+", "10000+1;");
        at(2, "law bid (", "99999999);");
        for (String number : WRAPPING) {
            at(2, "law bid ", number + ";");
        }
    }

    private static void signsOfTwo() {
        Check.says("A = (or > behind <) right behind < or > belongs to it.");
        Check.fine("law bid 1<=2;");
        Check.fine("law bid 1>=2;");
        Check.fine("law bid 1<>2;");
        at(1, "law bid 1< ", "=2;");
        at(1, "law bid 1> ", "=2;");
        at(1, "law bid 1< ", ">2;");
        at(1, "law bid 1<\n", "=2;");
        at(1, "law bid 1>", ">2;");
        at(1, "law bid 1>", "<2;");
        at(1, "law bid 1<", "<2;");
        at(1, "law bid 1=", "=2;");
        at(1, "law bid 1=", "<2;");
        at(1, "law bid 1=", ">2;");
        at(1, "law bid 1<=", "=2;");
        at(1, "law bid 1<=", ">2;");
        at(1, "law bid 1<>", "=2;");
        at(1, "law bid 1>=", "=2;");
        at(1, "law bid 1<=", ";");
        at(1, "law bid 1<", "");
        // One KNOT, not two: of 64 there is room for it.
        String sixty = "law bid 1" + "+1".repeat(31);
        for (String sign : new String[] {"<=", "<>", ">="}) {
            at(2, sixty + sign, "1;");
        }
        PaidFaces x = Check.told("sitter s 1 1;feature f 1 1;wants s f 1;law bid 1<=1;law pick 1<>1;law price 2>=2;");
        Check.due("1<=1", x.law(2, 0, 0), 1);
        Check.due("1<>1", x.law(1, 0, 0), 0);
        Check.due("2>=2", x.law(0, 0, 0), 1);
        Check.due("count(4)", x.count(4), 9);
    }

    private static void tooSmallAndLarge(String ahead, int least, int most, String rest) {
        Check.fine(ahead + least + rest);
        Check.fine(ahead + most + rest);
        Check.fine(ahead + "000" + most + rest);
        at(2, ahead, most + 1 + rest);
        at(2, ahead, most * 10 + 9 + rest);
        if (least > 0) {
            at(2, ahead, least - 1 + rest);
            at(2, ahead, "000" + rest);
        }
        for (String number : WRAPPING) {
            at(2, ahead, number + rest);
        }
    }

    private static void features() {
        Check.says("FEATURES, at most 5: BASE 1 .. 99, STROKES 1 .. 9.");
        tooSmallAndLarge("feature f ", 1, 99, " 1;");
        tooSmallAndLarge("feature f 1 ", 1, 9, ";");
        String five = "feature a 1 1;feature b 1 1;feature c 1 1;feature d 1 1;feature e 99 9;";
        Check.due("five", Check.told(five).count(0), 5);
        at(2, five, "feature x 1 1;");
        PaidFaces x = Check.told(five + "sitter s 9 9;wants s a 9;wants s e 9;law pick base*10+left;");
        Check.due("the least", x.law(1, 0, 0), 11);
        Check.due("the greatest", x.law(1, 1, 0), 999);
    }

    private static void sitters() {
        Check.says("SITTERS, at most 5: a purse 0 .. 999, RATE 0 .. 99.");
        tooSmallAndLarge("sitter s ", 0, 999, " 1;");
        tooSmallAndLarge("sitter s 1 ", 0, 99, ";");
        String five = "sitter a 0 0;sitter b 1 1;sitter c 1 1;sitter d 1 1;sitter e 999 99;";
        PaidFaces x = Check.told(five);
        Check.due("five", x.count(1), 5);
        Check.due("the least purse", Check.look(x, 0, 0), 0);
        Check.due("the greatest purse", Check.look(x, 4, 0), 999);
        at(2, five, "sitter x 1 1;");
        x = Check.told("feature f 99 1;sitter a 999 0;sitter b 999 99;wants a f 9;wants b f 9;law price 999;");
        x.days(1);
        Check.due("RATE 0", x.piece(0, 3), 0);
        Check.due("RATE 99", x.piece(1, 3), 99);
    }

    private static void wants() {
        Check.says("WANTS, at most 10: a SITTER, a FEATURE (each two once), till a DAY 0 .. 99.");
        tooSmallAndLarge(TWO + "wants s f ", 0, 99, ";");
        StringBuilder ten = new StringBuilder();
        for (char f = 'a'; f <= 'e'; f++) {
            ten.append("feature ").append(f).append(" 1 1;");
        }
        ten.append("sitter s 9 1;sitter t 9 1;sitter u 9 1;");
        for (char f = 'a'; f <= 'e'; f++) {
            ten.append("wants s ").append(f).append(" 0;wants t ").append(f).append(" 99;");
        }
        PaidFaces x = Check.told(ten.toString());
        Check.due("ten", x.count(2), 10);
        Check.due("DAY 0", x.piece(0, 2), 0);
        Check.due("DAY 99", x.piece(9, 2), 99);
        at(2, ten.toString(), "wants u a 1;");
        at(3, TWO + "wants s f 1;wants s ", "f 2;");
        Check.fine(TWO + "wants s f 1;wants s g 1;wants t f 1;wants t g 1;");
    }

    private static void kin() {
        Check.says("KIN, at most 3: two SITTERS and a FEATURE that they share.");
        String three = TWO + "kin s t f;kin t s g;kin s t f;";
        Check.due("three", Check.told(three).count(3), 3);
        at(2, three, "kin s t g;");
        at(5, TWO + "kin s ", "s f;");
        PaidFaces x = Check.told(TWO + "wants s f 9;wants s g 9;kin t s f;");
        x.forge(0);
        x.forge(0);
        x.forge(1);
        Check.due("shared f", Check.look(x, 1, 2), 1);
    }

    private static void twins() {
        Check.says("TWINS, at most 2: two SITTERS, nobody of two.");
        String four = "sitter a 1 1;sitter b 1 1;sitter c 1 1;sitter d 1 1;sitter e 1 1;";
        String two = four + "twin a b;twin d c;";
        PaidFaces x = Check.told(two);
        int[] twin = {1, 0, 3, 2, -1};
        for (int s = 0; s < 5; s++) {
            Check.due("twin of " + s, Check.look(x, s, 4), twin[s]);
        }
        at(2, two, "twin e a;");
        at(2, two, "twin e e;");
        at(3, four + "twin a b;twin ", "a c;");
        at(3, four + "twin a b;twin ", "b c;");
        at(3, four + "twin a b;twin c ", "a;");
        at(3, four + "twin a b;twin c ", "b;");
    }

    private static void heirs() {
        Check.says("heir: the second inherits from the first (of each one).");
        String five = "sitter a 1 1;sitter b 2 1;sitter c 4 1;sitter d 8 1;sitter e 16 1;";
        PaidFaces x = Check.told(five + "heir a b;heir b a;heir c a;heir d a;heir e a;");
        int[] heir = {1, 0, 0, 0, 0};
        for (int s = 0; s < 5; s++) {
            Check.due("heir of " + s, Check.look(x, s, 5), heir[s]);
        }
        Check.due("the first dies", x.dies(2), 0);
        Check.due("the second has it", Check.look(x, 0, 0), 5);
        for (char one = 'a'; one <= 'e'; one++) {
            at(3, five + "heir a b;heir b a;heir c a;heir d a;heir e a;heir ", one + " c;");
        }
    }

    private static void hail() {
        Check.says("HAIL: 1 .. 12 DAYS 0 .. 99.");
        tooSmallAndLarge("hail ", 0, 99, ";");
        tooSmallAndLarge("hail 5 6 7 ", 0, 99, " 8;");
        Check.fine("hail 1 2 3 4 5 6 7 8 9 10 11 12;");
        Check.fine("hail 7 7 7 7 7 7 7 7 7 7 7 7;");
        at(1, "hail", ";");
        at(2, "hail 1 2 3 4 5 6 7 8 9 10 11 12 ", "13;");
        at(2, "hail 7 7 7 7 7 7 7 7 7 7 7 7 ", "7;");
        PaidFaces x = Check.told("feature f 1 9;sitter s 9 9;wants s f 99;hail 0 3 99;");
        x.days(100);
        int[] hail = {0, 3, 99};
        for (int d : hail) {
            Check.due("no STROKE on " + d, x.log(d, 1), -1);
        }
        Check.due("one on 1", x.log(1, 1), 0);
    }

    private static void numbering() {
        Check.says("All numbered as they come; FEATURES, SITTERS have names of their kind.");
        PaidFaces x = Check.told("sitter z 1 0;feature z 7 2;sitter a 2 0;feature a 8 3;wants a z 5;wants z a 6;wants a a 7;");
        Check.due("SITTER z", x.named(1, Check.letters("z")), 0);
        Check.due("SITTER a", x.named(1, Check.letters("a")), 1);
        Check.due("FEATURE z", x.named(0, Check.letters("z")), 0);
        Check.due("FEATURE a", x.named(0, Check.letters("a")), 1);
        int[][] pieces = {{1, 0, 5}, {0, 1, 6}, {1, 1, 7}};
        for (int p = 0; p < 3; p++) {
            for (int what = 0; what < 3; what++) {
                Check.due("piece(" + p + ", " + what + ")", x.piece(p, what), pieces[p][what]);
            }
        }
    }
}
