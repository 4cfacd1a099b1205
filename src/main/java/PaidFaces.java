import java.util.NoSuchElementException;

/**
 * Portraits by instalments: who pays for which feature, what is painted on which day,
 * who owns it then, and what was seen of a face. The whole of it is told as a text.
 */
public final class PaidFaces {
    public static final int NONE = -1;

    private static final int NOBODY = -2;
    private static final int LEFT_OVER = -2;
    private static final int NO_MORE = -2;
    private static final int NOT_SO_MANY = -2;

    private static final int TAPE_MOST = 700;
    private static final int FEATURES_MOST = 5;
    private static final int SITTERS_MOST = 5;
    private static final int PIECES_MOST = 10;
    private static final int KIN_MOST = 3;
    private static final int TWINS_MOST = 2;
    private static final int HAIL_MOST = 12;
    private static final int DAYS_MOST = 100;
    private static final int OPEN_MOST = 8;
    private static final int KNOTS_MOST = 64;
    private static final int NAMES = 7;
    private static final int SEEN_MOST = 24;
    private static final int CHANGES_MOST = 40;
    private static final int UNDO_MOST = 20;
    private static final int PRICE_MOST = 999;
    private static final int WORTH_MOST = 999;
    private static final int LIMIT_MOST = 999;
    private static final int COIN_MOST = 999;
    private static final int PURSE_MOST = 9999;

    private static final long ERROR = Long.MIN_VALUE;
    private static final long VALUE_MOST = 1_000_000_000_000L;

    private static final int STRANGE = 1;
    private static final int TOO_MUCH = 2;
    private static final int TOLD_ALREADY = 3;
    private static final int NOT_TOLD = 4;
    private static final int ONESELF = 5;

    private static final int PRICE = 0;
    private static final int PICK = 1;
    private static final int BID = 2;
    private static final int LAWS = 3;

    private static final int OPERAND = 0;
    private static final int OR_LEVEL = 1;
    private static final int AND_LEVEL = 2;
    private static final int NOT_LEVEL = 3;
    private static final int COMPARE_LEVEL = 4;
    private static final int SUM_LEVEL = 5;
    private static final int PRODUCT_LEVEL = 6;

    private static final int AS_TOLD = -1;
    private static final int NO_HAIL = 0;
    private static final int PAYS_NOTHING = 1;
    private static final int NOT_PAINTED = 2;
    private static final int FIRST_PAINTED = 3;
    private static final int ALL_PAID_UP = 4;

    private static final int OPEN = 0;
    private static final int PAID_UP = 1;
    private static final int DONE = 2;
    private static final int LAPSED = 3;

    private final char[] tape = new char[TAPE_MOST];
    private int tapeLength;
    private final Parser parser = new Parser();
    private Book book = new Book();
    private Book draft = new Book();
    private final State now = new State(book);
    private final State trial = new State(book);
    private final State image = new State(book);
    private boolean hasImage;
    private final Past past = new Past(book);
    private final Painter painter = new Painter();
    private final int[][] diary = new int[3][DAYS_MOST];
    private final Auction sale = new Auction();
    private final Matching matching = new Matching();
    private final Seen seen = new Seen();

    /** A TEXT without LINES and an empty TAPE. */
    public PaidFaces() {
    }

    // ---- the TAPE and the TEXT

    public int feed(int a, int b, int c, int d, int e) {
        if (tapeLength + 20 > TAPE_MOST) {
            return NONE;
        }
        putFour(a);
        putFour(b);
        putFour(c);
        putFour(d);
        putFour(e);
        return tapeLength;
    }

    private void putFour(int number) {
        for (int shift = 24; shift >= 0 && tapeLength < TAPE_MOST; shift -= 8) {
            tape[tapeLength] = (char) ((number >>> shift) & 255);
            tapeLength++;
        }
    }

    public int text(int n) {
        if (n < 0 || n > tapeLength) {
            return NOT_SO_MANY;
        }
        tapeLength = 0;
        if (!parser.read(tape, n, draft)) {
            return NONE;
        }
        Book told = draft;
        draft = book;
        book = told;
        now.begin(told);
        past.forget();
        hasImage = false;
        seen.forget();
        return parser.lines;
    }

    public int fault(int what) {
        switch (what) {
            case 0:
                return parser.faultKind;
            case 1:
                return parser.faultPlace;
            default:
                return NONE;
        }
    }

    public int named(int what, int letters) {
        switch (what) {
            case 0:
                return book.featureNamed(letters);
            case 1:
                return book.sitterNamed(letters);
            default:
                return NONE;
        }
    }

    // ---- what there is now

    public int look(int sitter, int what) throws IndexOutOfBoundsException, NoSuchElementException {
        if (!book.isSitter(sitter)) {
            throw new IndexOutOfBoundsException("no such sitter");
        }
        switch (what) {
            case 0:
                return now.purse[sitter];
            case 1:
                return now.lives(sitter) ? 1 : 0;
            case 2:
                return now.faceOf(sitter);
            case 3:
                return now.ownedBy(sitter);
            case 4:
                return book.twin[sitter];
            case 5:
                return book.heir[sitter];
            default:
                throw new NoSuchElementException("no such what");
        }
    }

    public int piece(int piece, int what) {
        if (!book.isPiece(piece)) {
            return NONE;
        }
        switch (what) {
            case 0:
                return book.pieceSitter[piece];
            case 1:
                return book.pieceFeature[piece];
            case 2:
                return book.pieceDay[piece];
            case 3:
                return now.paid[piece];
            case 4:
                return now.strokes[piece];
            case 5:
                return now.priceOf(piece);
            case 6:
                return now.standingOf(piece);
            case 7:
                return now.owner[piece];
            default:
                return NONE;
        }
    }

    public long law(int what, int piece, int sitter) {
        if (what < 0 || what >= LAWS || !book.isPiece(piece)) {
            return ERROR;
        }
        return now.lawOf(what, piece, what == BID ? sitter : book.pieceSitter[piece]);
    }

    // ---- days

    public int days(int n) {
        if (n < 0 || n > DAYS_MOST || now.day + n > DAYS_MOST) {
            return NONE;
        }
        if (n > 0) {
            past.forget();
        }
        for (int k = 0; k < n; k++) {
            int day = now.day;
            painter.liveDay(now, AS_TOLD, 0);
            if (day >= 0 && day < DAYS_MOST) {
                diary[0][day] = painter.coin;
                diary[1][day] = painter.painted;
                diary[2][day] = painter.lapses;
            }
        }
        return now.day;
    }

    public int log(int day, int what) {
        if (day < 0 || day >= now.day || day >= DAYS_MOST || what < 0 || what > 2) {
            return NONE;
        }
        return diary[what][day];
    }

    public int tried(int what, int i, int n) {
        if (n < 0 || n > DAYS_MOST || !canTry(what, i)) {
            return NONE;
        }
        trial.copyFrom(now);
        for (int k = 0; k < n && trial.day < DAYS_MOST; k++) {
            painter.liveDay(trial, what, i);
        }
        return trial.doneCount();
    }

    private boolean canTry(int what, int i) {
        switch (what) {
            case NO_HAIL:
            case FIRST_PAINTED:
            case ALL_PAID_UP:
                return i == 0;
            case PAYS_NOTHING:
                return book.isSitter(i);
            case NOT_PAINTED:
                return book.isFeature(i);
            default:
                return false;
        }
    }

    public int gallery(int n, int what) {
        if (n < 0 || n > DAYS_MOST || what < 0 || what > 2) {
            return NONE;
        }
        painter.hang(now, n);
        switch (what) {
            case 0:
                return painter.hungSum;
            case 1:
                return painter.hungStrokes;
            default:
                return painter.hungPieces;
        }
    }

    // ---- what can be undone

    public int auction(int piece, int what) {
        if (!canBeSold(piece) || what < 0 || what > 2) {
            return NONE;
        }
        sale.call(now, piece);
        switch (what) {
            case 0:
                return sale.winner;
            case 1:
                return sale.price;
            default:
                return sale.round;
        }
    }

    public int sell(int piece) {
        if (!canBeSold(piece)) {
            return NONE;
        }
        sale.call(now, piece);
        if (!book.isSitter(sale.winner)) {
            return NOBODY;
        }
        past.remember(now);
        int seller = now.owner[piece];
        if (book.isSitter(seller)) {
            now.purse[seller] += sale.price;
        }
        now.purse[sale.winner] -= sale.price;
        now.own(piece, sale.winner);
        return sale.price;
    }

    private boolean canBeSold(int piece) {
        return book.isPiece(piece) && book.isSitter(now.owner[piece]);
    }

    public int dies(int sitter) {
        if (!book.isSitter(sitter) || !now.lives(sitter)) {
            return NONE;
        }
        past.remember(now);
        return now.bury(sitter);
    }

    public int match(int piece) {
        if (!book.isPiece(piece) || now.owner[piece] != LEFT_OVER) {
            return NONE;
        }
        matching.make(now);
        return matching.taker[piece];
    }

    public int adopt() {
        matching.make(now);
        if (matching.taken == 0) {
            return 0;
        }
        past.remember(now);
        for (int p = 0; p < book.pieces; p++) {
            if (book.isSitter(matching.taker[p])) {
                now.own(p, matching.taker[p]);
            }
        }
        return matching.taken;
    }

    public int forge(int piece) {
        if (!book.isPiece(piece) || !now.isOpenToBrush(piece)) {
            return NONE;
        }
        past.remember(now);
        now.forgedOnes |= 1 << piece;
        now.addStroke(piece);
        return now.strokes[piece];
    }

    public int give(int sitter, int coin) {
        if (!book.isSitter(sitter) || !now.lives(sitter) || coin < 1 || coin > COIN_MOST) {
            return NONE;
        }
        if (now.purse[sitter] + coin > PURSE_MOST) {
            return NONE;
        }
        past.remember(now);
        now.purse[sitter] += coin;
        return now.purse[sitter];
    }

    public int owner(int piece, int k) {
        if (!book.isPiece(piece) || k < 0) {
            return NONE;
        }
        return now.ownerBefore(piece, k);
    }

    public int undo() {
        return past.takeBack(now);
    }

    // ---- what was SEEN

    public int see(int feature, boolean is) {
        if (!book.isFeature(feature)) {
            return NONE;
        }
        return seen.add(is ? Seen.HAS : Seen.LACKS, feature);
    }

    public int strike(int seen) {
        if (seen < 0 || seen >= this.seen.size) {
            return NONE;
        }
        return this.seen.add(Seen.STRIKE, seen);
    }

    public boolean known(int n) {
        if (n < NONE || n > seen.size) {
            return false;
        }
        seen.knownBy = n;
        return true;
    }

    public int who() {
        seen.ask();
        int fitting = 0;
        for (int s = 0; s < book.sitters; s++) {
            if (seen.fits(now.faceOf(s))) {
                fitting |= 1 << s;
            }
        }
        return fitting;
    }

    public int forged() {
        return now.forgedOnes;
    }

    // ---- images and counts

    public int keep() {
        image.copyFrom(now);
        hasImage = true;
        return now.day;
    }

    public int back() {
        if (!hasImage) {
            return NONE;
        }
        // The diary needs no image: days before the image's were written before it, and are never written again.
        now.copyFrom(image);
        past.forget();
        return now.day;
    }

    public int count(int what) {
        switch (what) {
            case 0:
                return book.features;
            case 1:
                return book.sitters;
            case 2:
                return book.pieces;
            case 3:
                return book.kin;
            case 4:
                return book.knots();
            case 5:
                return now.day;
            case 6:
                return seen.size;
            case 7:
                return seen.knownCount();
            case 8:
                return past.size;
            case 9:
                return now.painterCoin;
            case 10:
                return now.allPurses();
            case 11:
                return now.doneCount();
            default:
                return NONE;
        }
    }

    /** What a text is made of; the operators with how strongly they bind, the names with their place in a row. */
    private enum Token {
        END, NO_TOKEN, WORD, NUMBER, SEMICOLON, OPENING, CLOSING,
        LESS(COMPARE_LEVEL), AT_MOST(COMPARE_LEVEL), EQUAL(COMPARE_LEVEL),
        UNEQUAL(COMPARE_LEVEL), AT_LEAST(COMPARE_LEVEL), GREATER(COMPARE_LEVEL),
        PLUS(SUM_LEVEL), MINUS(SUM_LEVEL), TIMES(PRODUCT_LEVEL), OVER(PRODUCT_LEVEL),
        OR("or", OR_LEVEL, PaidFaces.NONE), AND("and", AND_LEVEL, PaidFaces.NONE), NOT("not", NOT_LEVEL, PaidFaces.NONE),
        FEATURE("feature"), SITTER("sitter"), WANTS("wants"), KIN("kin"), TWIN("twin"),
        HEIR("heir"), HAIL("hail"), LAW("law"), PRICE_KIND("price"), PICK_KIND("pick"), BID_KIND("bid"),
        BASE("base", OPERAND, 0), LEFT("left", OPERAND, 1), PURSE("purse", OPERAND, 2), OWNED("owned", OPERAND, 3),
        DAY("day", OPERAND, 4), TILL("till", OPERAND, 5), PAID("paid", OPERAND, 6);

        private static final Token[] ALL = values();

        private final String spelling;
        private final int level;
        private final int name;

        Token() {
            this("", OPERAND, PaidFaces.NONE);
        }

        Token(int level) {
            this("", level, PaidFaces.NONE);
        }

        Token(String spelling) {
            this(spelling, OPERAND, PaidFaces.NONE);
        }

        Token(String spelling, int level, int name) {
            this.spelling = spelling;
            this.level = level;
            this.name = name;
        }
    }

    /** Reads the tokens of a tape, one after another. */
    private static final class Reader {
        private static final int NUMBER_CAP = 100_000;
        private static final int LETTERS_MOST = 6;

        private char[] tape = new char[0];
        private int length;
        private int next;
        private Token token = Token.END;
        private int place;
        private int number;
        private int letters;

        private void start(char[] signs, int n) {
            tape = signs;
            length = Math.max(0, Math.min(n, signs.length));
            next = 0;
            advance();
        }

        private void advance() {
            while (next < length && (tape[next] == 10 || tape[next] == 32)) {
                next++;
            }
            place = next;
            if (next >= length) {
                token = Token.END;
            } else if (tape[next] >= 'a' && tape[next] <= 'z') {
                readWord();
            } else if (tape[next] >= '0' && tape[next] <= '9') {
                readNumber();
            } else {
                readSign();
            }
        }

        private void readWord() {
            letters = 0;
            while (next < length && tape[next] >= 'a' && tape[next] <= 'z') {
                if (next - place < LETTERS_MOST) {
                    letters |= (tape[next] - 'a' + 1) << 5 * (LETTERS_MOST - 1 - (next - place));
                }
                next++;
            }
            for (Token word : Token.ALL) {
                if (word != null && isSpelled(word.spelling)) {
                    token = word;
                    return;
                }
            }
            token = next - place <= LETTERS_MOST ? Token.WORD : Token.NO_TOKEN;
        }

        private boolean isSpelled(String word) {
            if (word.length() != next - place) {
                return false;
            }
            for (int k = 0; k < word.length() && place + k < length; k++) {
                if (word.charAt(k) != tape[place + k]) {
                    return false;
                }
            }
            return true;
        }

        private void readNumber() {
            token = Token.NUMBER;
            number = 0;
            while (next < length && tape[next] >= '0' && tape[next] <= '9') {
                number = Math.min(NUMBER_CAP, number * 10 + (tape[next] - '0'));
                next++;
            }
        }

        private void readSign() {
            char sign = next < length ? tape[next] : 0;
            next++;
            switch (sign) {
                case ';':
                    token = Token.SEMICOLON;
                    break;
                case '(':
                    token = Token.OPENING;
                    break;
                case ')':
                    token = Token.CLOSING;
                    break;
                case '+':
                    token = Token.PLUS;
                    break;
                case '-':
                    token = Token.MINUS;
                    break;
                case '*':
                    token = Token.TIMES;
                    break;
                case '/':
                    token = Token.OVER;
                    break;
                case '=':
                    token = Token.EQUAL;
                    break;
                case '<':
                    token = isNext('=') ? Token.AT_MOST : isNext('>') ? Token.UNEQUAL : Token.LESS;
                    break;
                case '>':
                    token = isNext('=') ? Token.AT_LEAST : Token.GREATER;
                    break;
                default:
                    token = Token.NO_TOKEN;
                    break;
            }
        }

        /** Goes on behind the sign if it is there. */
        private boolean isNext(char sign) {
            if (next < length && tape[next] == sign) {
                next++;
                return true;
            }
            return false;
        }
    }

    /**
     * Reads a text into a book, up to its first fault. Every fault stands at the token that is read
     * just then and hangs on nothing behind it, so the first one met is the first along the text.
     */
    private static final class Parser {
        private final Reader reader = new Reader();
        private Book book = new Book();
        private final Token[] waiting = new Token[KNOTS_MOST + OPEN_MOST];
        private int waitingCount;
        private int opens;
        private int knots;
        private int lines;
        private int faultKind;
        private int faultPlace = NONE;

        private boolean read(char[] tape, int n, Book into) {
            book = into;
            book.clear();
            knots = 0;
            lines = 0;
            faultKind = 0;
            faultPlace = NONE;
            reader.start(tape, n);
            for (int k = 0; k <= TAPE_MOST && reader.token != Token.END; k++) {
                boolean isLine;
                switch (reader.token) {
                    case FEATURE:
                        isLine = readFeature();
                        break;
                    case SITTER:
                        isLine = readSitter();
                        break;
                    case WANTS:
                        isLine = readWants();
                        break;
                    case KIN:
                        isLine = readKin();
                        break;
                    case TWIN:
                        isLine = readTwin();
                        break;
                    case HEIR:
                        isLine = readHeir();
                        break;
                    case HAIL:
                        isLine = readHail();
                        break;
                    case LAW:
                        isLine = readLaw();
                        break;
                    default:
                        isLine = refuse(STRANGE);
                        break;
                }
                if (!isLine) {
                    return false;
                }
                if (reader.token != Token.SEMICOLON) {
                    return refuse(STRANGE);
                }
                reader.advance();
                lines++;
            }
            return true;
        }

        private boolean refuse(int kind) {
            faultKind = kind;
            faultPlace = reader.place;
            return false;
        }

        private boolean readFeature() {
            if (book.features >= FEATURES_MOST) {
                return refuse(TOO_MUCH);
            }
            reader.advance();
            int name = reader.letters;
            if (!isFreshName(book.featureNamed(name))) {
                return false;
            }
            reader.advance();
            int base = reader.number;
            if (!isNumber(1, 99)) {
                return false;
            }
            reader.advance();
            if (!isNumber(1, 9)) {
                return false;
            }
            book.addFeature(name, base, reader.number);
            reader.advance();
            return true;
        }

        private boolean readSitter() {
            if (book.sitters >= SITTERS_MOST) {
                return refuse(TOO_MUCH);
            }
            reader.advance();
            int name = reader.letters;
            if (!isFreshName(book.sitterNamed(name))) {
                return false;
            }
            reader.advance();
            int purse = reader.number;
            if (!isNumber(0, 999)) {
                return false;
            }
            reader.advance();
            if (!isNumber(0, 99)) {
                return false;
            }
            book.addSitter(name, purse, reader.number);
            reader.advance();
            return true;
        }

        private boolean isFreshName(int bearer) {
            if (reader.token != Token.WORD) {
                return refuse(STRANGE);
            }
            return bearer == NONE || refuse(TOLD_ALREADY);
        }

        private boolean isNumber(int least, int most) {
            if (reader.token != Token.NUMBER) {
                return refuse(STRANGE);
            }
            return reader.number >= least && reader.number <= most || refuse(TOO_MUCH);
        }

        /** The SITTER named by the next token; NONE, and a fault, if it names none. */
        private int nextSitter() {
            reader.advance();
            int sitter = book.sitterNamed(reader.letters);
            return isToldName(sitter) ? sitter : NONE;
        }

        private int nextFeature() {
            reader.advance();
            int feature = book.featureNamed(reader.letters);
            return isToldName(feature) ? feature : NONE;
        }

        private boolean isToldName(int bearer) {
            if (reader.token != Token.WORD) {
                return refuse(STRANGE);
            }
            return bearer != NONE || refuse(NOT_TOLD);
        }

        private boolean readWants() {
            if (book.pieces >= PIECES_MOST) {
                return refuse(TOO_MUCH);
            }
            int sitter = nextSitter();
            if (!book.isSitter(sitter)) {
                return false;
            }
            int feature = nextFeature();
            if (!book.isFeature(feature)) {
                return false;
            }
            if (book.pieceOf(sitter, feature) != NONE) {
                return refuse(TOLD_ALREADY);
            }
            reader.advance();
            if (!isNumber(0, DAYS_MOST - 1)) {
                return false;
            }
            book.addPiece(sitter, feature, reader.number);
            reader.advance();
            return true;
        }

        private boolean readKin() {
            if (book.kin >= KIN_MOST) {
                return refuse(TOO_MUCH);
            }
            int one = nextSitter();
            if (!book.isSitter(one)) {
                return false;
            }
            int other = nextSitter();
            if (!book.isSitter(other)) {
                return false;
            }
            if (one == other) {
                return refuse(ONESELF);
            }
            int feature = nextFeature();
            if (!book.isFeature(feature)) {
                return false;
            }
            book.addKin(one, other, feature);
            reader.advance();
            return true;
        }

        private boolean readTwin() {
            if (book.twins >= TWINS_MOST) {
                return refuse(TOO_MUCH);
            }
            int one = nextSitter();
            if (!book.isSitter(one)) {
                return false;
            }
            if (book.twin[one] != NONE) {
                return refuse(TOLD_ALREADY);
            }
            int other = nextSitter();
            if (!book.isSitter(other)) {
                return false;
            }
            if (book.twin[other] != NONE) {
                return refuse(TOLD_ALREADY);
            }
            if (one == other) {
                return refuse(ONESELF);
            }
            book.twin[one] = other;
            book.twin[other] = one;
            book.twins++;
            reader.advance();
            return true;
        }

        private boolean readHeir() {
            int one = nextSitter();
            if (!book.isSitter(one)) {
                return false;
            }
            if (book.heir[one] != NONE) {
                return refuse(TOLD_ALREADY);
            }
            int other = nextSitter();
            if (!book.isSitter(other)) {
                return false;
            }
            if (one == other) {
                return refuse(ONESELF);
            }
            book.heir[one] = other;
            reader.advance();
            return true;
        }

        private boolean readHail() {
            if (book.hailTold) {
                return refuse(TOLD_ALREADY);
            }
            book.hailTold = true;
            reader.advance();
            if (reader.token != Token.NUMBER) {
                return refuse(STRANGE);
            }
            for (int k = 0; k <= HAIL_MOST && reader.token == Token.NUMBER; k++) {
                int day = reader.number;
                if (k == HAIL_MOST || day < 0 || day >= DAYS_MOST) {
                    return refuse(TOO_MUCH);
                }
                book.hail[day] = true;
                reader.advance();
            }
            return true;
        }

        private boolean readLaw() {
            reader.advance();
            Law law;
            switch (reader.token) {
                case PRICE_KIND:
                    law = book.laws[PRICE];
                    break;
                case PICK_KIND:
                    law = book.laws[PICK];
                    break;
                case BID_KIND:
                    law = book.laws[BID];
                    break;
                default:
                    return refuse(STRANGE);
            }
            if (law.length > 0) {
                return refuse(TOLD_ALREADY);
            }
            reader.advance();
            return readTerms(law);
        }

        /** An E, put into the law with every sign behind what it joins; signs wait until that has come. */
        private boolean readTerms(Law law) {
            waitingCount = 0;
            opens = 0;
            boolean operandDue = true;
            for (int k = 0; k <= TAPE_MOST; k++) {
                Token token = reader.token;
                if (operandDue) {
                    if (!putOperand(law)) {
                        return false;
                    }
                    operandDue = token == Token.OPENING || token == Token.NOT;
                } else if (token.level != OPERAND && token != Token.NOT) {
                    if (!putOperator(law)) {
                        return false;
                    }
                    operandDue = true;
                } else if (token == Token.CLOSING && opens > 0) {
                    release(law, OR_LEVEL);
                    waitingCount = Math.max(0, waitingCount - 1);
                    opens--;
                } else {
                    release(law, OR_LEVEL);
                    return opens == 0 || refuse(STRANGE);
                }
                reader.advance();
            }
            return refuse(STRANGE);
        }

        private boolean putOperand(Law law) {
            Token token = reader.token;
            if (token == Token.OPENING) {
                opens++;
                return opens > OPEN_MOST ? refuse(TOO_MUCH) : letWait(token);
            }
            if (token == Token.NOT) {
                return topLevel() > NOT_LEVEL ? refuse(STRANGE) : isKnotLeft() && letWait(token);
            }
            if (token == Token.NUMBER) {
                if (!isNumber(0, 9999)) {
                    return false;
                }
            } else if (token.name == NONE) {
                return refuse(STRANGE);
            }
            if (!isKnotLeft()) {
                return false;
            }
            law.add(token, reader.number);
            return true;
        }

        private boolean putOperator(Law law) {
            int level = reader.token.level;
            // A comparison takes no other one beside it: those ahead stay, and are found.
            release(law, level == COMPARE_LEVEL ? SUM_LEVEL : level);
            if (level == COMPARE_LEVEL && topLevel() == COMPARE_LEVEL) {
                return refuse(STRANGE);
            }
            return isKnotLeft() && letWait(reader.token);
        }

        private boolean isKnotLeft() {
            knots++;
            return knots <= KNOTS_MOST || refuse(TOO_MUCH);
        }

        private boolean letWait(Token token) {
            if (waitingCount >= waiting.length) {
                return refuse(TOO_MUCH);
            }
            waiting[waitingCount] = token;
            waitingCount++;
            return true;
        }

        /** How strongly the last one that waits binds; 0 with an open '(' or none. */
        private int topLevel() {
            if (waitingCount <= 0 || waitingCount > waiting.length) {
                return OPERAND;
            }
            Token top = waiting[waitingCount - 1];
            return top == null ? OPERAND : top.level;
        }

        private void release(Law law, int level) {
            while (waitingCount > 0 && waitingCount <= waiting.length && topLevel() >= level) {
                waitingCount--;
                law.add(waiting[waitingCount], 0);
            }
        }
    }

    /** A law's E, every sign behind what it joins. */
    private static final class Law {
        private final Token[] knots = new Token[KNOTS_MOST];
        private final int[] numbers = new int[KNOTS_MOST];
        private final long[] stack = new long[KNOTS_MOST];
        private int length;

        private void add(Token knot, int number) {
            if (length < KNOTS_MOST) {
                knots[length] = knot;
                numbers[length] = number;
                length++;
            }
        }

        /** The value for what the names stand for; ERROR also of a law that isn't told. */
        private long worth(int[] names) {
            int top = 0;
            for (int k = 0; k < length && k < KNOTS_MOST; k++) {
                Token knot = knots[k];
                if (knot == null) {
                    return ERROR;
                }
                if (knot.level == OPERAND) {
                    if (top >= KNOTS_MOST) {
                        return ERROR;
                    }
                    int name = knot.name;
                    stack[top] = name >= 0 && name < names.length ? names[name] : numbers[k];
                    top++;
                } else if (knot == Token.NOT) {
                    if (top < 1) {
                        return ERROR;
                    }
                    stack[top - 1] = stack[top - 1] == 0 ? 1 : 0;
                } else {
                    if (top < 2) {
                        return ERROR;
                    }
                    top--;
                    long value = join(knot, stack[top - 1], stack[top]);
                    if (value > VALUE_MOST || value < -VALUE_MOST) {
                        return ERROR;
                    }
                    stack[top - 1] = value;
                }
            }
            return top == 1 ? stack[0] : ERROR;
        }

        private static long join(Token sign, long a, long b) {
            switch (sign) {
                case PLUS:
                    return a + b;
                case MINUS:
                    return a - b;
                case TIMES:
                    // Looked at ahead of it: a long could not hold each product.
                    return a != 0 && (b < 0 ? -b : b) > VALUE_MOST / (a < 0 ? -a : a) ? ERROR : a * b;
                case OVER:
                    return b == 0 ? ERROR : a / b;
                case LESS:
                    return a < b ? 1 : 0;
                case AT_MOST:
                    return a <= b ? 1 : 0;
                case EQUAL:
                    return a == b ? 1 : 0;
                case UNEQUAL:
                    return a != b ? 1 : 0;
                case AT_LEAST:
                    return a >= b ? 1 : 0;
                case GREATER:
                    return a > b ? 1 : 0;
                case AND:
                    return a != 0 && b != 0 ? 1 : 0;
                case OR:
                    return a != 0 || b != 0 ? 1 : 0;
                default:
                    return ERROR;
            }
        }
    }

    /** What a text tells. */
    private static final class Book {
        private int features;
        private final int[] featureName = new int[FEATURES_MOST];
        private final int[] base = new int[FEATURES_MOST];
        private final int[] size = new int[FEATURES_MOST];
        private int sitters;
        private final int[] sitterName = new int[SITTERS_MOST];
        private final int[] purse = new int[SITTERS_MOST];
        private final int[] rate = new int[SITTERS_MOST];
        private int twins;
        private final int[] twin = new int[SITTERS_MOST];
        private final int[] heir = new int[SITTERS_MOST];
        private int pieces;
        private final int[] pieceSitter = new int[PIECES_MOST];
        private final int[] pieceFeature = new int[PIECES_MOST];
        private final int[] pieceDay = new int[PIECES_MOST];
        private int kin;
        private final int[][] kinRows = new int[KIN_MOST][3];
        private boolean hailTold;
        private final boolean[] hail = new boolean[DAYS_MOST];
        private final Law[] laws = {new Law(), new Law(), new Law()};

        private void clear() {
            features = 0;
            sitters = 0;
            twins = 0;
            pieces = 0;
            kin = 0;
            hailTold = false;
            for (int d = 0; d < DAYS_MOST; d++) {
                hail[d] = false;
            }
            for (int k = 0; k < LAWS; k++) {
                laws[k].length = 0;
            }
        }

        private boolean isFeature(int f) {
            return f >= 0 && f < features;
        }

        private boolean isSitter(int s) {
            return s >= 0 && s < sitters;
        }

        private boolean isPiece(int p) {
            return p >= 0 && p < pieces;
        }

        private boolean isHail(int day) {
            return day >= 0 && day < DAYS_MOST && hail[day];
        }

        private int featureNamed(int letters) {
            for (int f = 0; f < features; f++) {
                if (featureName[f] == letters) {
                    return f;
                }
            }
            return NONE;
        }

        private int sitterNamed(int letters) {
            for (int s = 0; s < sitters; s++) {
                if (sitterName[s] == letters) {
                    return s;
                }
            }
            return NONE;
        }

        private int pieceOf(int sitter, int feature) {
            for (int p = 0; p < pieces; p++) {
                if (pieceSitter[p] == sitter && pieceFeature[p] == feature) {
                    return p;
                }
            }
            return NONE;
        }

        private void addFeature(int name, int itsBase, int strokes) {
            if (features < FEATURES_MOST) {
                featureName[features] = name;
                base[features] = itsBase;
                size[features] = strokes;
                features++;
            }
        }

        private void addSitter(int name, int itsPurse, int itsRate) {
            if (sitters < SITTERS_MOST) {
                sitterName[sitters] = name;
                purse[sitters] = itsPurse;
                rate[sitters] = itsRate;
                twin[sitters] = NONE;
                heir[sitters] = NONE;
                sitters++;
            }
        }

        private void addPiece(int sitter, int feature, int day) {
            if (pieces < PIECES_MOST) {
                pieceSitter[pieces] = sitter;
                pieceFeature[pieces] = feature;
                pieceDay[pieces] = day;
                pieces++;
            }
        }

        private void addKin(int one, int other, int feature) {
            if (kin < KIN_MOST) {
                kinRows[kin][0] = one;
                kinRows[kin][1] = other;
                kinRows[kin][2] = feature;
                kin++;
            }
        }

        private int baseOf(int p) {
            int feature = isPiece(p) ? pieceFeature[p] : NONE;
            return isFeature(feature) ? base[feature] : 0;
        }

        private int sizeOf(int p) {
            int feature = isPiece(p) ? pieceFeature[p] : NONE;
            return isFeature(feature) ? size[feature] : 0;
        }

        private int knots() {
            int sum = 0;
            for (int k = 0; k < LAWS; k++) {
                sum += laws[k].length;
            }
            return sum;
        }
    }

    /** How all stands on a day: what an image keeps and an undo brings again. */
    private static final class State {
        private Book book;
        private int day;
        private int painterCoin;
        private int deadOnes;
        private int lapsedOnes;
        private int forgedOnes;
        private final int[] purse = new int[SITTERS_MOST];
        private final int[] paid = new int[PIECES_MOST];
        private final int[] strokes = new int[PIECES_MOST];
        private final int[] owner = new int[PIECES_MOST];
        private int changes;
        private final int[] changedPiece = new int[CHANGES_MOST];
        private final int[] changedOwner = new int[CHANGES_MOST];
        private final int[] names = new int[NAMES];

        private State(Book told) {
            book = told;
        }

        private void begin(Book told) {
            book = told;
            day = 0;
            painterCoin = 0;
            deadOnes = 0;
            lapsedOnes = 0;
            forgedOnes = 0;
            changes = 0;
            for (int s = 0; s < SITTERS_MOST; s++) {
                purse[s] = s < told.sitters ? told.purse[s] : 0;
            }
            for (int p = 0; p < PIECES_MOST; p++) {
                paid[p] = 0;
                strokes[p] = 0;
                owner[p] = NONE;
            }
        }

        private void copyFrom(State other) {
            book = other.book;
            day = other.day;
            painterCoin = other.painterCoin;
            deadOnes = other.deadOnes;
            lapsedOnes = other.lapsedOnes;
            forgedOnes = other.forgedOnes;
            changes = other.changes;
            System.arraycopy(other.purse, 0, purse, 0, SITTERS_MOST);
            System.arraycopy(other.paid, 0, paid, 0, PIECES_MOST);
            System.arraycopy(other.strokes, 0, strokes, 0, PIECES_MOST);
            System.arraycopy(other.owner, 0, owner, 0, PIECES_MOST);
            System.arraycopy(other.changedPiece, 0, changedPiece, 0, CHANGES_MOST);
            System.arraycopy(other.changedOwner, 0, changedOwner, 0, CHANGES_MOST);
        }

        private boolean lives(int s) {
            return (deadOnes >> s & 1) == 0;
        }

        private boolean isLapsed(int p) {
            return (lapsedOnes >> p & 1) != 0;
        }

        private boolean isDone(int p) {
            return strokes[p] >= book.sizeOf(p);
        }

        private boolean isPaidUp(int p) {
            return paid[p] >= priceOf(p);
        }

        /** A PIECE that a stroke can still come to, paid or not. */
        private boolean isOpenToBrush(int p) {
            return !isLapsed(p) && !isDone(p) && lives(book.pieceSitter[p]);
        }

        private int standingOf(int p) {
            if (isLapsed(p)) {
                return LAPSED;
            }
            if (isDone(p)) {
                return DONE;
            }
            return isPaidUp(p) ? PAID_UP : OPEN;
        }

        private int priceOf(int p) {
            long price = lawOf(PRICE, p, book.pieceSitter[p]);
            return price == ERROR ? book.baseOf(p) : (int) Math.max(1, Math.min(PRICE_MOST, price));
        }

        private long pickOf(int p) {
            if (book.laws[PICK].length == 0) {
                return 1;
            }
            long pick = lawOf(PICK, p, book.pieceSitter[p]);
            return pick == ERROR ? 0 : pick;
        }

        private int limitOf(int p, int bidder) {
            long bid = lawOf(BID, p, bidder);
            long limit = bid == ERROR ? book.baseOf(p) : Math.max(0, Math.min(LIMIT_MOST, bid));
            return (int) Math.min(limit, purse[bidder]);
        }

        private long lawOf(int kind, int p, int one) {
            if (kind < 0 || kind >= LAWS || !book.isPiece(p) || !book.isSitter(one)) {
                return ERROR;
            }
            names[0] = book.baseOf(p);
            names[1] = book.sizeOf(p) - strokes[p];
            names[2] = purse[one];
            names[3] = ownedBy(one);
            names[4] = day;
            names[5] = Math.max(0, book.pieceDay[p] - day);
            names[6] = paid[p];
            return book.laws[kind].worth(names);
        }

        private int ownedBy(int s) {
            int sum = 0;
            for (int p = 0; p < book.pieces; p++) {
                if (owner[p] == s) {
                    sum++;
                }
            }
            return sum;
        }

        private boolean ownsFeature(int s, int feature) {
            for (int p = 0; p < book.pieces; p++) {
                if (owner[p] == s && book.pieceFeature[p] == feature) {
                    return true;
                }
            }
            return false;
        }

        private int faceOf(int s) {
            int face = 0;
            for (int p = 0; p < book.pieces; p++) {
                int feature = book.pieceFeature[p];
                if (isDone(p) && (book.pieceSitter[p] == s || isShared(book.pieceSitter[p], s, feature))) {
                    face |= 1 << feature;
                }
            }
            return face;
        }

        private boolean isShared(int one, int other, int feature) {
            for (int k = 0; k < book.kin; k++) {
                int[] row = book.kinRows[k];
                if (row[2] == feature && (row[0] == one && row[1] == other || row[0] == other && row[1] == one)) {
                    return true;
                }
            }
            return false;
        }

        private void addStroke(int p) {
            strokes[p]++;
            if (isDone(p)) {
                own(p, book.pieceSitter[p]);
            }
        }

        private void own(int p, int s) {
            owner[p] = s;
            if (changes < CHANGES_MOST) {
                changedPiece[changes] = p;
                changedOwner[changes] = s;
                changes++;
            }
        }

        private int ownerBefore(int p, int k) {
            int met = 0;
            for (int c = 0; c < changes && c < CHANGES_MOST; c++) {
                if (changedPiece[c] == p) {
                    if (met == k) {
                        return changedOwner[c];
                    }
                    met++;
                }
            }
            return NO_MORE;
        }

        private int bury(int s) {
            deadOnes |= 1 << s;
            int heir = livingHeirOf(s);
            if (heir == NOBODY) {
                painterCoin += purse[s];
            } else {
                purse[heir] += purse[s];
            }
            purse[s] = 0;
            for (int p = 0; p < book.pieces; p++) {
                if (owner[p] == s) {
                    if (heir == NOBODY) {
                        owner[p] = LEFT_OVER;
                    } else {
                        own(p, heir);
                    }
                }
            }
            return heir;
        }

        private int livingHeirOf(int s) {
            int one = s;
            // Heirs may go round; as many steps as there are sitters meet each of them.
            for (int k = 0; k < SITTERS_MOST && book.isSitter(one); k++) {
                one = book.heir[one];
                if (book.isSitter(one) && lives(one)) {
                    return one;
                }
            }
            return NOBODY;
        }

        private int doneCount() {
            int sum = 0;
            for (int p = 0; p < book.pieces; p++) {
                if (isDone(p)) {
                    sum++;
                }
            }
            return sum;
        }

        private int allPurses() {
            int sum = 0;
            for (int s = 0; s < book.sitters; s++) {
                sum += purse[s];
            }
            return sum;
        }
    }

    /** Lives through a day, as told or as tried otherwise, and plans a gallery. */
    private static final class Painter {
        private int coin;
        private int painted = NONE;
        private int lapses;
        private int hungSum;
        private int hungStrokes;
        private int hungPieces;
        private final int[] candidate = new int[PIECES_MOST];
        private final int[] worth = new int[PIECES_MOST];
        private final int[] need = new int[PIECES_MOST];

        private void liveDay(State s, int what, int i) {
            coin = what == ALL_PAID_UP ? 0 : pay(s, what == PAYS_NOTHING ? i : NONE);
            painted = NONE;
            if (what == NO_HAIL || !s.book.isHail(s.day)) {
                painted = choose(s, what, i);
                if (s.book.isPiece(painted)) {
                    s.addStroke(painted);
                }
            }
            lapses = what == ALL_PAID_UP ? 0 : lapse(s);
            s.day++;
        }

        private int pay(State s, int miser) {
            int sum = 0;
            for (int payer = 0; payer < s.book.sitters; payer++) {
                int p = s.lives(payer) ? firstDue(s, payer) : NONE;
                if (s.book.isPiece(p)) {
                    int due = Math.min(s.book.rate[payer], s.priceOf(p) - s.paid[p]);
                    int twin = s.book.twin[payer];
                    int half = s.book.isSitter(twin) && s.lives(twin) ? due / 2 : 0;
                    int come = takeOut(s, payer, due - half, miser) + takeOut(s, twin, half, miser);
                    s.paid[p] += come;
                    sum += come;
                }
            }
            s.painterCoin += sum;
            return sum;
        }

        private int firstDue(State s, int payer) {
            for (int p = 0; p < s.book.pieces; p++) {
                if (s.book.pieceSitter[p] == payer && !s.isLapsed(p) && !s.isDone(p) && s.paid[p] < s.priceOf(p)) {
                    return p;
                }
            }
            return NONE;
        }

        private int takeOut(State s, int payer, int part, int miser) {
            if (!s.book.isSitter(payer) || payer == miser) {
                return 0;
            }
            int coins = Math.min(part, s.purse[payer]);
            s.purse[payer] -= coins;
            return coins;
        }

        private int choose(State s, int what, int i) {
            int best = NONE;
            long most = 0;
            for (int p = 0; p < s.book.pieces; p++) {
                if (!isPaintable(s, p, what, i)) {
                    continue;
                }
                if (what == FIRST_PAINTED) {
                    return p;
                }
                long pick = s.pickOf(p);
                if (pick > most) {
                    most = pick;
                    best = p;
                }
            }
            return best;
        }

        private boolean isPaintable(State s, int p, int what, int i) {
            if (!s.isOpenToBrush(p) || what == NOT_PAINTED && s.book.pieceFeature[p] == i) {
                return false;
            }
            return what == ALL_PAID_UP || s.paid[p] >= s.priceOf(p);
        }

        private int lapse(State s) {
            int sum = 0;
            for (int p = 0; p < s.book.pieces; p++) {
                if (s.book.pieceDay[p] == s.day && !s.isDone(p) && !s.isPaidUp(p)) {
                    s.lapsedOnes |= 1 << p;
                    s.forgedOnes &= ~(1 << p);
                    s.strokes[p] = 0;
                    sum++;
                }
            }
            return sum;
        }

        private void hang(State s, int n) {
            int room = 0;
            for (int d = s.day; d < s.day + n && d < DAYS_MOST; d++) {
                room += s.book.isHail(d) ? 0 : 1;
            }
            int many = 0;
            for (int p = 0; p < s.book.pieces; p++) {
                if (isPaintable(s, p, AS_TOLD, 0)) {
                    candidate[many] = p;
                    worth[many] = (int) Math.max(0, Math.min(WORTH_MOST, s.pickOf(p)));
                    need[many] = s.book.sizeOf(p) - s.strokes[p];
                    many++;
                }
            }
            hungSum = NONE;
            // The first one is the highest bit: counting down, what comes first wins among equals.
            for (int set = (1 << many) - 1; set >= 0; set--) {
                weigh(set, many, room);
            }
        }

        /** Takes the set if there is room for it and it is better than the best so far. */
        private void weigh(int set, int many, int room) {
            int pieces = 0;
            int sum = 0;
            int strokes = 0;
            for (int k = 0; k < many; k++) {
                if ((set >> many - 1 - k & 1) != 0) {
                    pieces |= 1 << candidate[k];
                    sum += worth[k];
                    strokes += need[k];
                }
            }
            if (strokes <= room && (sum > hungSum || sum == hungSum && strokes < hungStrokes)) {
                hungSum = sum;
                hungStrokes = strokes;
                hungPieces = pieces;
            }
        }
    }

    /** An auction by rounds, as it would end now. */
    private static final class Auction {
        private final int[] limit = new int[SITTERS_MOST];
        private int winner;
        private int price;
        private int round;

        private void call(State s, int piece) {
            for (int b = 0; b < SITTERS_MOST; b++) {
                boolean bids = s.book.isSitter(b) && s.lives(b) && s.owner[piece] != b;
                limit[b] = bids ? s.limitOf(piece, b) : 0;
            }
            winner = NOBODY;
            for (round = 1; round <= LIMIT_MOST + 1; round++) {
                int staying = 0;
                int first = NOBODY;
                for (int b = SITTERS_MOST - 1; b >= 0; b--) {
                    if (limit[b] >= round) {
                        staying++;
                        first = b;
                    }
                }
                if (staying == 0) {
                    price = round - 1;
                    return;
                }
                winner = first;
                price = round;
                if (staying == 1) {
                    return;
                }
            }
        }
    }

    /** Gives PIECES left over to sitters: as many as can be, the least sitters first by PIECES. */
    private static final class Matching {
        private static final int SETS = 1 << SITTERS_MOST;

        /** Who may take a PIECE, as bits. */
        private final int[] takers = new int[PIECES_MOST];
        /** How many PIECES from one on can be given, with a set of sitters that have one. */
        private final int[][] most = new int[PIECES_MOST + 1][SETS];
        private final int[] taker = new int[PIECES_MOST];
        private int taken;

        private void make(State s) {
            int pieces = s.book.pieces;
            for (int set = 0; set < SETS; set++) {
                most[pieces][set] = 0;
            }
            for (int p = pieces - 1; p >= 0; p--) {
                takers[p] = takersOf(s, p);
                for (int set = 0; set < SETS; set++) {
                    most[p][set] = bestFrom(p, set);
                }
            }
            taken = most[0][0];
            int set = 0;
            for (int p = 0; p < pieces; p++) {
                taker[p] = leastTaker(p, set);
                set |= taker[p] == NOBODY ? 0 : 1 << taker[p];
            }
        }

        private static int takersOf(State s, int p) {
            int bits = 0;
            for (int one = 0; one < s.book.sitters && s.owner[p] == LEFT_OVER; one++) {
                if (s.lives(one) && !s.ownsFeature(one, s.book.pieceFeature[p])) {
                    bits |= 1 << one;
                }
            }
            return bits;
        }

        private int bestFrom(int p, int set) {
            int best = most[p + 1][set];
            for (int one = 0; one < SITTERS_MOST; one++) {
                if ((takers[p] & ~set & 1 << one) != 0) {
                    best = Math.max(best, 1 + most[p + 1][set | 1 << one]);
                }
            }
            return best;
        }

        /** The least sitter with whom as many as can be still have one. */
        private int leastTaker(int p, int set) {
            for (int one = 0; one < SITTERS_MOST; one++) {
                if ((takers[p] & ~set & 1 << one) != 0 && 1 + most[p + 1][set | 1 << one] == most[p][set]) {
                    return one;
                }
            }
            return NOBODY;
        }
    }

    /** What was SEEN of a face, strikes among it. */
    private static final class Seen {
        private static final int LACKS = 0;
        private static final int HAS = 1;
        private static final int STRIKE = 2;

        private final int[] kind = new int[SEEN_MOST];
        private final int[] about = new int[SEEN_MOST];
        private int size;
        private int knownBy = NONE;
        private int wanted;
        private int unwanted;

        private void forget() {
            size = 0;
            knownBy = NONE;
        }

        private int add(int itsKind, int itsAbout) {
            if (size >= SEEN_MOST) {
                return NONE;
            }
            kind[size] = itsKind;
            about[size] = itsAbout;
            size++;
            return size - 1;
        }

        private int knownCount() {
            return knownBy == NONE ? size : knownBy;
        }

        /** Works out what is KNOWN: a strike only strikes what is ahead of it, so the last one stands. */
        private void ask() {
            wanted = 0;
            unwanted = 0;
            int struck = 0;
            for (int k = Math.min(knownCount(), SEEN_MOST) - 1; k >= 0; k--) {
                if ((struck >> k & 1) != 0) {
                    continue;
                }
                if (kind[k] == STRIKE) {
                    struck |= 1 << about[k];
                } else if (kind[k] == HAS) {
                    wanted |= 1 << about[k];
                } else {
                    unwanted |= 1 << about[k];
                }
            }
        }

        private boolean fits(int face) {
            return (face & wanted) == wanted && (face & unwanted) == 0;
        }
    }

    /** The states ahead of what can be undone, the oldest given up for room. */
    private static final class Past {
        private final State[] states = new State[UNDO_MOST];
        private int first;
        private int size;

        private Past(Book told) {
            for (int k = 0; k < UNDO_MOST; k++) {
                states[k] = new State(told);
            }
        }

        private void forget() {
            size = 0;
        }

        private void remember(State state) {
            if (size == UNDO_MOST) {
                first = (first + 1) % UNDO_MOST;
                size--;
            }
            states[(first + size) % UNDO_MOST].copyFrom(state);
            size++;
        }

        private int takeBack(State state) {
            if (size == 0) {
                return NONE;
            }
            size--;
            state.copyFrom(states[(first + size) % UNDO_MOST]);
            return size;
        }
    }
}
