/** Promises 1 to 5: a new object, feed, text, fault, named. */
public final class TextTest {
    private static final String HEAD = "feature f 10 2;feature g 4 1;sitter s 9 1;sitter t 9 1;";

    public static void main(String[] args) {
        fresh();
        feeding();
        texts();
        words();
        numbers();
        tooMany();
        toldAlready();
        notTold();
        oneself();
        terms();
        whatStays();
        toldAnew();
        names();
        Check.end();
    }

    private static void fresh() {
        PaidFaces x = new PaidFaces();
        for (int what = 0; what <= 11; what++) {
            Check.due("new: count(" + what + ")", x.count(what), 0);
        }
        Check.due("new: fault(0)", x.fault(0), 0);
        Check.due("new: fault(1)", x.fault(1), -1);
        Check.due("new: text(1)", x.text(1), -2);
        Check.due("new: text(0)", x.text(0), 0);
        Check.due("new: piece(0, 0)", x.piece(0, 0), -1);
        Check.due("new: look(0, 0)", Check.look(x, 0, 0), Check.INDEX);
        Check.due("new: match(0)", x.match(0), -1);
        Check.due("new: undo()", x.undo(), -1);
        Check.due("new: back()", x.back(), -1);
        Check.due("new: gallery(100, 2)", x.gallery(100, 2), 0);
    }

    private static void feeding() {
        PaidFaces x = new PaidFaces();
        for (int k = 1; k <= 35; k++) {
            Check.due("feed " + k, x.feed(0x20202020, 0x20202020, 0x20202020, 0x20202020, 0x20202020), 20 * k);
        }
        Check.due("feed 36", x.feed(0x20202020, 0x20202020, 0x20202020, 0x20202020, 0x20202020), -1);
        Check.due("text(701)", x.text(701), -2);
        Check.due("text(-1)", x.text(-1), -2);
        Check.due("feed 37", x.feed(0, 0, 0, 0, 0), -1);
        Check.due("text(700)", x.text(700), 0);
        Check.due("feed anew", x.feed(0, 0, 0, 0, 0), 20);
        // "hail 7;" with the highest byte first, and what lies behind n isn't looked at.
        x = new PaidFaces();
        Check.due("feed", x.feed(0x6861696c, 0x20373bff, -1, -1, -1), 20);
        Check.due("text(7)", x.text(7), 1);
        x.feed(0x6861696c, 0x20373bff, -1, -1, -1);
        Check.due("text(8)", x.text(8), -1);
        Check.due("fault(0)", x.fault(0), 1);
        Check.due("fault(1)", x.fault(1), 7);
    }

    private static void texts() {
        Check.fine("");
        Check.fine(" \n  ");
        Check.fine(HEAD);
        Check.fine("feature f1 1;");
        Check.fine("\nfeature\n f 1\n1 ;\n");
        Check.fine("feature f 007 0000000000009;sitter f 0 0;sitter a 999 99;");
        Check.fine(HEAD + "wants s f 0;wants s g 99;wants t f 3;kin s t f;kin s t f;kin t s g;twin t s;heir s t;heir t s;");
        Check.fine("hail 0 99 5 5;");
        Check.fine("hail 1 2 3 4 5 6 7 8 9 10 11 12;");
        Check.fine("law price 1;law pick 0;law bid 9999;");
        Check.fine("sitter abcdef 1 1;feature abcdef 1 1;");
    }

    private static void words() {
        Check.fault("x", 1, 0);
        Check.fault(";", 1, 0);
        Check.fault("hail 1;;", 1, 7);
        Check.fault("hail 1", 1, 6);
        Check.fault("hail 1  ", 1, 8);
        Check.fault("hail", 1, 4);
        Check.fault("feature f 1 1", 1, 13);
        Check.fault("feature ", 1, 8);
        Check.fault("features f 1 1;", 1, 0);
        Check.fault("feature abcdefg 1 1;", 1, 8);
        Check.fault("feature base 1 1;", 1, 8);
        Check.fault("feature or 1 1;", 1, 8);
        Check.fault("feature feature 1 1;", 1, 8);
        Check.fault("sitter bid 1 1;", 1, 7);
        Check.fault("feature F 1 1;", 1, 8);
        Check.fault("feature 1 1;", 1, 8);
        Check.fault("feature f g 1;", 1, 10);
        Check.fault("feature f 1;", 1, 11);
        Check.fault("feature f 1 1 1;", 1, 14);
        Check.fault("feature f 1 1 feature g 1 1;", 1, 14);
        Check.fault("feature f 1 -1;", 1, 12);
        Check.fault("hail 1\t2;", 1, 6);
        Check.fault("hail 1\r;", 1, 6);
        Check.fault("hail 1\u00e9;", 1, 6);
        Check.fault("hail 1\u0000;", 1, 6);
        Check.fault("hail x;", 1, 5);
        Check.fault("hail 1 x;", 1, 7);
        Check.fault(HEAD + "wants 1 f 1;", 1, 61);
        Check.fault(HEAD + "wants s 1 1;", 1, 63);
        Check.fault(HEAD + "wants s f;", 1, 64);
        Check.fault(HEAD + "kin s t;", 1, 62);
        Check.fault(HEAD + "twin s;", 1, 61);
        Check.fault(HEAD + "twin s t t;", 1, 64);
        Check.fault(HEAD + "heir s law;", 1, 62);
    }

    private static void numbers() {
        Check.fault("feature f 0 1;", 2, 10);
        Check.fault("feature f 100 1;", 2, 10);
        Check.fault("feature f 4294967297 1;", 2, 10);
        Check.fault("feature f 99999999999999999999999999 1;", 2, 10);
        Check.fault("feature f 99 0;", 2, 13);
        Check.fault("feature f 99 10;", 2, 13);
        Check.fault("sitter s 1000 1;", 2, 9);
        Check.fault("sitter s 999 100;", 2, 13);
        Check.fault(HEAD + "wants s f 100;", 2, 65);
        Check.fault("hail 99 100;", 2, 8);
        Check.fault("law pick 10000;", 2, 9);
        Check.fault("law pick 1 + 18446744073709551616;", 2, 13);
    }

    private static void tooMany() {
        Check.fault("feature a 1 1;feature b 1 1;feature c 1 1;feature d 1 1;feature e 1 1;feature a 1 1;", 2, 70);
        Check.fault("sitter a 1 1;sitter b 1 1;sitter c 1 1;sitter d 1 1;sitter e 1 1;sitter", 2, 65);
        Check.fine("feature a 1 1;feature b 1 1;feature c 1 1;feature d 1 1;feature e 1 1;");
        StringBuilder all = new StringBuilder(HEAD).append("feature h 1 1;feature i 1 1;feature j 1 1;");
        for (String s : new String[] {"s", "t"}) {
            for (String f : new String[] {"f", "g", "h", "i", "j"}) {
                all.append("wants ").append(s).append(' ').append(f).append(" 1;");
            }
        }
        Check.fine(all.toString());
        Check.fault(all + "wants x", 2, all.length());
        String kin = HEAD + "kin s t f;kin s t f;kin s t f;";
        Check.fine(kin);
        Check.fault(kin + "kin s s f;", 2, kin.length());
        String twins = HEAD + "sitter u 1 1;sitter v 1 1;sitter w 1 1;twin s t;twin u v;";
        Check.fine(twins);
        Check.fault(twins + "twin w s;", 2, twins.length());
        Check.fault("hail 1 2 3 4 5 6 7 8 9 10 11 12 13;", 2, 32);
        Check.fault("hail 1 2 3 4 5 6 7 8 9 10 11 12 100;", 2, 32);
    }

    private static void toldAlready() {
        Check.fault("feature f 1 1;feature f 1 1;", 3, 22);
        Check.fault("sitter s 1 1;sitter s 1 1;", 3, 20);
        Check.fault(HEAD + "wants s f 1;wants s f 2;", 3, 75);
        Check.fine(HEAD + "wants s f 1;wants t f 1;");
        Check.fault(HEAD + "sitter u 1 1;twin s t;twin u t;", 3, 84);
        Check.fault(HEAD + "sitter u 1 1;twin s t;twin s u;", 3, 82);
        Check.fault(HEAD + "twin s t;twin s s;", 3, 69);
        Check.fault(HEAD + "heir s t;heir s s;", 3, 69);
        Check.fault(HEAD + "heir s t;heir s x;", 3, 69);
        Check.fault("hail 1;hail x;", 3, 7);
        Check.fault("law bid 1;law bid x;", 3, 14);
        Check.fault("law pick 1;law pick", 3, 15);
    }

    private static void notTold() {
        Check.fault(HEAD + "wants x f 1;", 4, 61);
        Check.fault(HEAD + "wants f f 1;", 4, 61);
        Check.fault(HEAD + "wants s s 1;", 4, 63);
        Check.fault(HEAD + "kin x s f;", 4, 59);
        Check.fault(HEAD + "kin s x f;", 4, 61);
        Check.fault(HEAD + "kin s t x;", 4, 63);
        Check.fault(HEAD + "twin x s;", 4, 60);
        Check.fault(HEAD + "twin s x;", 4, 62);
        Check.fault(HEAD + "heir x s;", 4, 60);
        Check.fault(HEAD + "heir s x;", 4, 62);
        Check.fault("wants s f 1;sitter s 1 1;", 4, 6);
        Check.fault("sitter ss 1 1;heir s ss;", 4, 19);
    }

    private static void oneself() {
        Check.fault(HEAD + "kin s s x;", 5, 61);
        Check.fault(HEAD + "twin s s;", 5, 62);
        Check.fault(HEAD + "heir s s;", 5, 62);
    }

    private static void terms() {
        Check.fine("law bid ((((((((1))))))));");
        Check.fault("law bid (((((((((1)))))))));", 2, 16);
        Check.fine("law bid (((((((1)))))))+(((((((1)))))));");
        Check.fine("law bid not not 1<2 and not(1)or 2<>3;");
        Check.fine("law bid (1<2)<(3>=4);");
        Check.fine("law bid 1<2=(3);".replace("<2=", "<=2 and "));
        Check.fault("law bid 1<2<3;", 1, 11);
        Check.fault("law bid 1+1<2*2=3;", 1, 15);
        Check.fault("law bid 1< =3;", 1, 11);
        Check.fault("law bid 1=>3;", 1, 10);
        Check.fault("law bid 1<=>3;", 1, 11);
        Check.fault("law bid 1+not 2;", 1, 10);
        Check.fault("law bid 1<not 2;", 1, 10);
        Check.fault("law bid -1;", 1, 8);
        Check.fault("law bid 1 2;", 1, 10);
        Check.fault("law bid 1 not 2;", 1, 10);
        Check.fault("law bid ();", 1, 9);
        Check.fault("law bid (1;", 1, 10);
        Check.fault("law bid 1);", 1, 9);
        Check.fault("law bid (1", 1, 10);
        Check.fault("law bid 1+", 1, 10);
        Check.fault("law bid not", 1, 11);
        Check.fault("law bid foo;", 1, 8);
        Check.fault("law bid price;", 1, 8);
        Check.fault("law bid;", 1, 7);
        Check.fault("law;", 1, 3);
        Check.fault("law foo 1;", 1, 4);
        StringBuilder sum = new StringBuilder("law bid not 1");
        for (int k = 0; k < 31; k++) {
            sum.append("+1");
        }
        // 1 + 1 + 62 knots: no more than 64; with parentheses none more.
        Check.fine(sum + ";");
        Check.due("count(4)", Check.told(sum + ";").count(4), 64);
        Check.due("count(4)", Check.told(sum.toString().replace("not 1", "not((1))") + ";").count(4), 64);
        Check.fault(sum + "+1;", 2, sum.length());
        Check.fault(sum + "1 1;", 1, sum.length() + 2);
        Check.fault(sum + ";law pick (1);", 2, sum.length() + 11);
        Check.fault(sum + ";law pick (+);", 1, sum.length() + 11);
        Check.fault(sum + ";law pick not 1;", 2, sum.length() + 10);
    }

    private static void whatStays() {
        PaidFaces x = Check.told(HEAD + "wants s f 5;");
        x.days(2);
        x.see(0, true);
        x.known(0);
        x.give(0, 5);
        x.keep();
        Check.due("text with a fault", Check.tell(x, "hail;"), -1);
        Check.due("fault(0)", x.fault(0), 1);
        Check.due("fault(1)", x.fault(1), 4);
        Check.due("fault(2)", x.fault(2), -1);
        Check.due("fault(-1)", x.fault(-1), -1);
        Check.due("the tape is empty", x.text(1), -2);
        Check.due("fault(0) behind -2", x.fault(0), 1);
        Check.due("count(0) stays", x.count(0), 2);
        Check.due("count(5) stays", x.count(5), 2);
        Check.due("count(6) stays", x.count(6), 1);
        Check.due("count(7) stays", x.count(7), 0);
        Check.due("count(8) stays", x.count(8), 1);
        Check.due("back() stays", x.back(), 2);
        Check.due("new text", Check.tell(x, HEAD), 4);
        Check.due("fault(0)", x.fault(0), 0);
        Check.due("fault(1)", x.fault(1), -1);
        Check.due("DAY 0", x.count(5), 0);
        Check.due("nothing SEEN", x.count(6), 0);
        x.see(0, true);
        Check.due("all KNOWN", x.count(7), 1);
        Check.due("nothing to undo", x.undo(), -1);
        Check.due("no IMAGE", x.back(), -1);
        Check.due("log(0, 0)", x.log(0, 0), -1);
        Check.due("the painter's coin", x.count(9), 0);
    }

    /** A text takes nothing over from those ahead of it, whether they stood or not. */
    private static void toldAnew() {
        String all = "feature a 1 1;feature b 1 1;feature c 1 1;feature d 1 1;feature e 1 1;"
            + "sitter a 9 1;sitter b 8 1;sitter c 7 1;sitter d 6 1;sitter e 5 1;wants a a 0;wants b b 9;"
            + "kin a b a;kin a b b;kin a b c;twin a b;twin c d;heir a b;hail 0 1;law price 1+1;law pick not 0;law bid (3);";
        String spent = "law pick 1" + "+1".repeat(31) + ";";
        String[] ahead = {all, all + "x", spent, spent + "x", "law pick ((((((((1", "law pick 1+1*(", "hail 2 x"};
        PaidFaces x = new PaidFaces();
        for (String one : ahead) {
            for (int k = 0; k < 3; k++) {
                Check.due("text ahead", Check.tell(x, one) > 0, one.endsWith(";"));
                x.days(3);
                x.forge(1);
                x.dies(1);
                x.dies(0);
            }
            Check.due("all of it again", Check.tell(x, all), 22);
            Check.due("count(4)", x.count(4), 6);
            Check.due("count(3)", x.count(3), 3);
            Check.due("count(9)", x.count(9), 0);
            Check.due("count(10)", x.count(10), 35);
            Check.due("count(11)", x.count(11), 0);
            Check.due("living", Check.look(x, 0, 1), 1);
            Check.due("owner", x.piece(1, 7), -1);
            Check.due("owner", x.owner(1, 0), -2);
            Check.due("PAID", x.piece(1, 3), 0);
            Check.due("STROKES", x.piece(1, 4), 0);
            Check.due("not LAPSED", x.piece(0, 6), 0);
            Check.due("spent anew", Check.tell(x, spent), 1);
            Check.due("no hail", Check.tell(x, HEAD + "wants s f 5;law price 1;"), 6);
            Check.due("no kin", x.count(3), 0);
            Check.due("no twin", Check.look(x, 0, 4), -1);
            Check.due("no heir", Check.look(x, 0, 5), -1);
            Check.due("no bid", x.law(2, 0, 0), Long.MIN_VALUE);
            x.days(1);
            Check.due("painted on 0", x.log(0, 1), 0);
            Check.due("nothing", Check.tell(x, ""), 0);
            for (int what = 0; what <= 11; what++) {
                Check.due("nothing: count(" + what + ")", x.count(what), 0);
            }
        }
    }

    private static void names() {
        PaidFaces x = Check.told("feature nose 1 1;feature abcdef 1 1;sitter nose 1 1;sitter z 1 1;sitter a 1 1;");
        Check.due("named nose", x.named(0, Check.letters("nose")), 0);
        Check.due("named abcdef", x.named(0, Check.letters("abcdef")), 1);
        Check.due("named z", x.named(1, Check.letters("z")), 1);
        Check.due("named z", x.named(1, 26 << 25), 1);
        Check.due("named a", x.named(1, 1 << 25), 2);
        Check.due("named a not highest", x.named(1, 1), -1);
        Check.due("named nose of sitters", x.named(1, Check.letters("nose")), 0);
        Check.due("named nos", x.named(0, Check.letters("nos")), -1);
        Check.due("named noses", x.named(0, Check.letters("noses")), -1);
        Check.due("named z of features", x.named(0, Check.letters("z")), -1);
        Check.due("named nothing", x.named(0, 0), -1);
        Check.due("named higher bits", x.named(1, 26 << 25 | 1 << 31), -1);
        Check.due("named(2)", x.named(2, Check.letters("nose")), -1);
        Check.due("named(-1)", x.named(-1, Check.letters("nose")), -1);
    }
}
