import java.util.Arrays;

/** A book of wagers between members of a club on what may come by days; README.md says how to use it. */
public final class BettingBook {
    public static final int NONE = -1;

    private static final int NONE_SUCH = -2;
    private static final int NO_COIN = -1_000_000;
    private static final long NO_WORTH = -1_000_000_000_000_000L;

    private static final int TAPE_MOST = 1_200;
    private static final int FEED_BYTES = 20;
    private static final int LAST_DAY = 7;
    private static final int THINGS_MOST = 5;
    private static final int MEMBERS_MOST = 6;
    private static final int BETS_MOST = 12;
    private static final int STATEMENTS_MOST = 40;
    private static final int OPEN_MOST = 9;
    private static final int NAME_MOST = 8;
    private static final int LETTER_BITS = 5;
    private static final int DIGITS_MOST = 3;
    private static final int COIN_MOST = 999;
    private static final int MANY_MOST = 9;
    private static final int DEBT_MOST = 9_999;
    private static final int IMAGES_MOST = 4;
    private static final int PARTS_WHOLE = 100;
    private static final int WIN_MOST = 6;

    /** A THING's digits in a code: 0 never, else the DAY and 1. */
    private static final int RADIX = 9;

    // A ROW's cell: for each WAGER five bits, of which the one of its outcome is set, and above them three marks.
    // A cell of 0 is no ROW at all.
    private static final int OUTCOMES = 5;
    private static final int OUTCOME_BITS = 31;
    private static final int OFF = 0;
    private static final int LOST = 1;
    private static final int LOST_TWICE = 2;
    private static final int WON = 3;
    private static final int WON_TWICE = 4;
    private static final long ALL_OUTCOMES = (1L << 60) - 1;
    private static final long EXISTS = 1L << 60;
    private static final long POSSIBLE = 1L << 61;
    private static final long LEFT = 1L << 62;

    private final byte[] tape;
    private int taped;
    private int faultPlace;
    private int booksTaken;
    private final Tokens tokens;
    private Club club;
    private final RowTable table;
    private final Ledger ledger;
    private final Ledger[] images;
    private int imagesMade;
    private final Odds odds;
    private final Gains gains;
    private final Winner winner;
    /** What each MEMBER HAS, and for each set of MEMBERS the most groups in it, while settle() works. */
    private final int[] owed;
    private final int[] groups;

    public BettingBook() {
        tape = new byte[TAPE_MOST];
        faultPlace = NONE;
        tokens = new Tokens();
        club = new Club();
        table = new RowTable();
        ledger = new Ledger();
        images = new Ledger[IMAGES_MOST];
        for (int i = 0; i < images.length; i++) {
            images[i] = new Ledger();
        }
        odds = new Odds();
        gains = new Gains();
        winner = new Winner();
        owed = new int[MEMBERS_MOST];
        groups = new int[1 << MEMBERS_MOST];
        table.fill(club);
        table.mark(ledger);
    }

    public int feed(int a, int b, int c, int d, int e) {
        if (taped + FEED_BYTES > tape.length) {
            return NONE;
        }
        putBytes(a);
        putBytes(b);
        putBytes(c);
        putBytes(d);
        putBytes(e);
        return taped;
    }

    public int book(int n) {
        if (n < 0 || n > taped) {
            return NONE_SUCH;
        }
        taped = 0;
        Club read = new Club();
        tokens.read(tape, n);
        if (!new Teller(tokens, read).tellAll()) {
            faultPlace = tokens.nextStart();
            return NONE;
        }
        faultPlace = NONE;
        booksTaken++;
        club = read;
        imagesMade = 0;
        odds.clear();
        ledger.open(read);
        table.fill(read);
        table.mark(ledger);
        return read.betCount;
    }

    public int fault() {
        return faultPlace;
    }

    public int told(int what) {
        switch (what) {
            case 0:
                return club.things;
            case 1:
                return club.members;
            case 2:
                return club.betCount;
            case 3:
                return club.statements;
            default:
                break;
        }
        int thing = what >= 100 ? (what - 100) / 2 : NONE;
        if (!club.hasThing(thing)) {
            return NONE;
        }
        return what % 2 == 0 ? at(club.from, thing) : at(club.until, thing);
    }

    public int wager(int w, int what) {
        Bet bet = club.betAt(w);
        if (bet == null) {
            return NONE;
        }
        switch (what) {
            case 0:
            case 1:
                return ledger.holder(w, what);
            case 2:
            case 3:
                return bet.stake(what - 2);
            case 4:
                return bet.off == null ? 0 : 1;
            case 5:
                return bet.twice == null ? 0 : 1;
            default:
                return NONE;
        }
    }

    public int day(int d) {
        if (d <= ledger.today || d > LAST_DAY) {
            return NONE;
        }
        int before = ledger.today;
        ledger.today = d;
        if (table.mark(ledger) > 0) {
            return table.left;
        }
        ledger.today = before;
        table.mark(ledger);
        return NONE;
    }

    public int come(int thing) {
        if (!club.hasThing(thing) || at(ledger.came, thing) != 0) {
            return NONE;
        }
        set(ledger.came, thing, ledger.today + 1);
        if (table.mark(ledger) > 0) {
            return table.left;
        }
        set(ledger.came, thing, 0);
        table.mark(ledger);
        return NONE;
    }

    public boolean chance(int thing, int day, int parts) {
        boolean such = club.hasThing(thing) && day >= NONE && day <= LAST_DAY && parts >= 0 && parts <= PARTS_WHOLE;
        if (such) {
            odds.setParts(thing, day + 1, parts);
        }
        return such;
    }

    public boolean sell(int w, int side, int member, int coin) {
        if (club.betAt(w) == null || side < 0 || side > 1 || !club.hasMember(member) || coin < 0 || coin > DEBT_MOST) {
            return false;
        }
        int seller = ledger.holder(w, side);
        if (seller == member || table.isSure(w)) {
            return false;
        }
        ledger.sellSide(w, side, member, coin);
        return true;
    }

    public boolean paid(int from, int to, int coin) {
        if (!club.hasMember(from) || !club.hasMember(to) || from == to || coin < 1 || coin > DEBT_MOST) {
            return false;
        }
        ledger.credit(from, to, coin);
        return true;
    }

    public int rows(int k) {
        return k == NONE ? table.left : table.leftCode(k);
    }

    public int fits(int code) {
        long cell = table.cellAt(code);
        if (cell == 0) {
            return NONE;
        }
        return (cell & LEFT) != 0 ? 2 : (cell & POSSIBLE) != 0 ? 1 : 0;
    }

    public int pays(int w, int code) {
        Bet bet = club.betAt(w);
        long cell = table.cellAt(code);
        return bet == null || cell == 0 ? NO_COIN : bet.coinOf(outcome(cell, w));
    }

    public int sure(int w, int what) {
        Bet bet = club.betAt(w);
        if (bet == null || what < 0 || what > 1) {
            return NO_COIN;
        }
        if (!table.isSure(w)) {
            return 0;
        }
        return what == 0 ? 1 : bet.coinOf(outcome(table.certain, w));
    }

    public int split(int w, int what) {
        if (club.betAt(w) == null) {
            return NONE;
        }
        switch (what) {
            case 0:
                return table.countLeft(w, 1 << WON | 1 << WON_TWICE);
            case 1:
                return table.countLeft(w, 1 << LOST | 1 << LOST_TWICE);
            case 2:
                return table.countLeft(w, 1 << OFF);
            case 3:
                return table.countLeft(w, 1 << LOST_TWICE | 1 << WON_TWICE);
            default:
                return NONE;
        }
    }

    public int when(int w, int code) {
        boolean such = club.betAt(w) != null && (table.cellAt(code) & POSSIBLE) != 0;
        return such ? table.decidedOn(w, code) : NONE;
    }

    public int latest(int w) {
        return club.betAt(w) == null ? NONE : table.lastDecided(w);
    }

    public int hang(int w) {
        return club.betAt(w) == null ? NONE : table.hangingOn(w);
    }

    public int same(int one, int other) {
        Bet first = club.betAt(one);
        Bet second = club.betAt(other);
        if (first == null || second == null) {
            return NONE_SUCH;
        }
        for (int code = 0; code < table.size; code++) {
            long cell = table.cellAt(code);
            if ((cell & POSSIBLE) != 0 && first.coinOf(outcome(cell, one)) != second.coinOf(outcome(cell, other))) {
                return code;
            }
        }
        return NONE;
    }

    public int has(int member) {
        return club.hasMember(member) ? hasNow(member) : NO_COIN;
    }

    public int may(int member, int what) {
        if (!club.hasMember(member) || what < 0 || what > 1) {
            return NO_COIN;
        }
        gains.ofMember(club, ledger, member);
        int least = 0;
        int most = 0;
        boolean first = true;
        for (int code = 0; code < table.size; code++) {
            long cell = table.cellAt(code);
            if ((cell & LEFT) != 0) {
                int coin = gains.sum(cell);
                least = first ? coin : Math.min(least, coin);
                most = first ? coin : Math.max(most, coin);
                first = false;
            }
        }
        return at(ledger.balance, member) + (what == 0 ? least : most);
    }

    public int end(int member, int code) {
        long cell = table.cellAt(code);
        if (!club.hasMember(member) || cell == 0) {
            return NO_COIN;
        }
        gains.ofMember(club, ledger, member);
        return at(ledger.balance, member) + gains.sum(cell);
    }

    public int settle() {
        int members = club.members;
        for (int member = 0; member < members; member++) {
            set(owed, member, hasNow(member));
        }
        int all = (1 << members) - 1;
        set(groups, 0, 0);
        for (int some = 1; some <= all; some++) {
            int together = 0;
            int most = 0;
            for (int member = 0; member < members; member++) {
                if ((some >> member & 1) != 0) {
                    together += at(owed, member);
                    most = Math.max(most, at(groups, some & ~(1 << member)));
                }
            }
            set(groups, some, together == 0 ? most + 1 : most);
        }
        // Who HAS nothing is a group alone, so that all less all groups is what SETTLE asks for.
        return members - at(groups, all);
    }

    public int best(int what) {
        if (what < 0 || what > 1) {
            return NONE;
        }
        int best = NONE;
        int bestHas = 0;
        for (int member = 0; member < club.members; member++) {
            int has = what == 0 ? hasNow(member) : -hasNow(member);
            if (best == NONE || has > bestHas) {
                best = member;
                bestHas = has;
            }
        }
        return best;
    }

    public int win(int wagers, int what) {
        if (wagers < 0 || wagers >= 1 << club.betCount || what < 0 || what > 1) {
            return NONE;
        }
        if (!winner.choose(club, table, wagers)) {
            return NONE;
        }
        winner.search(gains);
        return what == 0 ? winner.bestCode : winner.bestCoin;
    }

    public long worth(int w, int what) {
        if (club.betAt(w) == null) {
            return NO_WORTH;
        }
        gains.clear();
        gains.addSide(club.betAt(w), w, 0);
        return odds.worthOf(table, gains, what);
    }

    public long holds(int member, int what) {
        if (!club.hasMember(member)) {
            return NO_WORTH;
        }
        gains.ofMember(club, ledger, member);
        return odds.worthOf(table, gains, what);
    }

    public int luck(int member, int what) {
        if (!club.hasMember(member) || table.left != 1 || what < 0 || what > 1) {
            return NONE;
        }
        if (what == 1) {
            return table.possible;
        }
        gains.ofMember(club, ledger, member);
        int real = gains.sum(table.cellAt(table.leftCode(0)));
        int reached = 0;
        for (int code = 0; code < table.size; code++) {
            long cell = table.cellAt(code);
            if ((cell & POSSIBLE) != 0 && gains.sum(cell) >= real) {
                reached++;
            }
        }
        return reached;
    }

    public int image() {
        if (imagesMade >= images.length) {
            return NONE;
        }
        Ledger copy = images[imagesMade];
        if (copy != null) {
            copy.become(ledger);
        }
        return imagesMade++;
    }

    public boolean back(int image) {
        if (image < 0 || image >= imagesMade || image >= images.length || images[image] == null) {
            return false;
        }
        ledger.become(images[image]);
        table.mark(ledger);
        return true;
    }

    public int count(int what) {
        switch (what) {
            case 0:
                return booksTaken;
            case 1:
                return ledger.today;
            case 2:
                return ledger.cameBits();
            case 3:
                return taped;
            case 4:
                return imagesMade;
            case 5:
                return Long.bitCount(table.certain);
            case 6:
                return table.possible;
            case 7:
                return odds.areWhole(table.things) ? 1 : 0;
            case 8:
                return ledger.sidesSold;
            default:
                return NONE;
        }
    }

    private void putBytes(int four) {
        for (int shift = 24; shift >= 0; shift -= 8) {
            if (taped >= 0 && taped < tape.length) {
                tape[taped] = (byte) (four >>> shift);
                taped++;
            }
        }
    }

    private int hasNow(int member) {
        gains.ofMember(club, ledger, member);
        return at(ledger.balance, member) + gains.sum(table.certain);
    }

    private static int at(int[] row, int place) {
        return row != null && place >= 0 && place < row.length ? row[place] : 0;
    }

    private static long at(long[] row, int place) {
        return row != null && place >= 0 && place < row.length ? row[place] : 0;
    }

    private static void set(int[] row, int place, int value) {
        if (row != null && place >= 0 && place < row.length) {
            row[place] = value;
        }
    }

    /** The outcome bits of a WAGER in a cell. */
    private static int outcomeBits(long cell, int w) {
        return (int) (cell >>> OUTCOMES * w) & OUTCOME_BITS;
    }

    private static int outcome(long cell, int w) {
        return Integer.numberOfTrailingZeros(outcomeBits(cell, w));
    }

    private static int power(int base, int exponent) {
        int product = 1;
        for (int i = 0; i < exponent; i++) {
            product *= base;
        }
        return product;
    }

    /** The words of the BOOK's text, which no NAME may be. */
    private enum Word {
        THING("thing"), FROM("from"), UNTIL("until"), MEMBER("member"), BARS("bars"), BRINGS("brings"), IN("in"),
        BET("bet"), TO("to"), THAT("that"), OFF("off"), DOUBLE("double"), OR("or"), AND("and"), NOT("not"),
        COMES("comes"), BY("by"), BEFORE("before"), LEAST("least");

        private static final Word[] ALL = values();

        /** As Tokens put letters together. */
        private final long letters;

        Word(String text) {
            long packed = 0;
            for (int i = 0; i < text.length(); i++) {
                packed = packed << LETTER_BITS | text.charAt(i) - 'a' + 1;
            }
            letters = packed;
        }

        static boolean isOne(long letters) {
            for (Word word : ALL) {
                if (word.letters == letters) {
                    return true;
                }
            }
            return false;
        }
    }

    /** A text's tokens, and the place among them up to which they are taken. */
    private static final class Tokens {
        // A sign is its own kind.
        private static final int END = 0;
        private static final int BLANK = 1;
        private static final int LETTERS = 2;
        private static final int NUMBER = 3;
        private static final int NO_TOKEN = 4;

        private final int[] kinds = new int[TAPE_MOST + 1];
        private final int[] starts = new int[TAPE_MOST + 1];
        /** Of letters five bits each (0: too many), of digits the number (NONE: too many). */
        private final long[] values = new long[TAPE_MOST + 1];
        private int taken;

        void read(byte[] text, int length) {
            taken = 0;
            int tokens = 0;
            int kind = BLANK;
            int run = 0;
            for (int i = 0; i < length && i < text.length; i++) {
                int sign = text[i] & 255;
                int before = kind;
                kind = kindOf(sign);
                boolean isRun = kind == LETTERS || kind == NUMBER;
                boolean goesOn = isRun && kind == before;
                run = goesOn ? run + 1 : 1;
                if (kind != BLANK && !goesOn) {
                    put(tokens, kind, i);
                    tokens++;
                }
                if (isRun) {
                    extend(tokens - 1, sign, run);
                }
            }
            put(tokens, END, length);
        }

        boolean atEnd() {
            return at(kinds, taken) == END;
        }

        /** Where the first token begins that isn't taken. */
        int nextStart() {
            return at(starts, taken);
        }

        boolean isNext(Word word) {
            return at(kinds, taken) == LETTERS && at(values, taken) == word.letters;
        }

        boolean isNext(char sign) {
            return at(kinds, taken) == sign;
        }

        boolean take(Word word) {
            boolean found = at(kinds, taken) == LETTERS && at(values, taken) == word.letters;
            taken += found ? 1 : 0;
            return found;
        }

        boolean take(char sign) {
            boolean found = at(kinds, taken) == sign;
            taken += found ? 1 : 0;
            return found;
        }

        /** A number from the least to the most, or NONE. */
        int takeNumber(int least, int most) {
            long number = at(values, taken);
            if (at(kinds, taken) != NUMBER || number < least || number > most) {
                return NONE;
            }
            taken++;
            return (int) number;
        }

        /** The number of a NAME that is told, and not the one of this number; or NONE. */
        int takeTold(long[] names, int told, int otherThan) {
            long name = at(kinds, taken) == LETTERS ? at(values, taken) : 0;
            for (int i = 0; i < told && i < names.length; i++) {
                if (names[i] == name && i != otherThan) {
                    taken++;
                    return i;
                }
            }
            return NONE;
        }

        /** The next token, if it may be a NAME, else 0. */
        long name() {
            long letters = at(kinds, taken) == LETTERS ? at(values, taken) : 0;
            return Word.isOne(letters) ? 0 : letters;
        }

        void skip() {
            taken++;
        }

        private void put(int token, int kind, int start) {
            set(kinds, token, kind);
            set(starts, token, start);
            if (token >= 0 && token < values.length) {
                values[token] = 0;
            }
        }

        private void extend(int token, int sign, int run) {
            if (token < 0 || token >= values.length) {
                return;
            }
            if (at(kinds, token) == LETTERS) {
                values[token] = run > NAME_MOST ? 0 : values[token] << LETTER_BITS | sign - 'a' + 1;
            } else {
                values[token] = run > DIGITS_MOST ? NONE : 10 * values[token] + sign - '0';
            }
        }

        private static int kindOf(int sign) {
            if (sign == ' ' || sign == '\n') {
                return BLANK;
            }
            if (sign >= 'a' && sign <= 'z') {
                return LETTERS;
            }
            if (sign >= '0' && sign <= '9') {
                return NUMBER;
            }
            return sign == ';' || sign == '(' || sign == ')' ? sign : NO_TOKEN;
        }
    }

    /** Reads tokens into a club. Where it fails, they stand still in front of the one at fault. */
    private static final class Teller {
        private final Tokens tokens;
        private final Club club;

        Teller(Tokens tokens, Club club) {
            this.tokens = tokens;
            this.club = club;
        }

        boolean tellAll() {
            for (int i = 0; i < STATEMENTS_MOST && !tokens.atEnd(); i++) {
                boolean told = tokens.take(Word.THING) ? tellThing()
                        : tokens.take(Word.MEMBER) ? tellMember()
                        : tokens.take(Word.BARS) ? tellRule(false)
                        : tokens.take(Word.BRINGS) ? tellRule(true)
                        : club.betCount < BETS_MOST && tokens.take(Word.BET) && tellBet();
                if (!told || !tokens.take(';')) {
                    return false;
                }
                club.statements++;
            }
            return tokens.atEnd();
        }

        private boolean tellThing() {
            long name = tokens.name();
            if (!club.isFree(name) || club.things >= THINGS_MOST) {
                return false;
            }
            tokens.skip();
            int from = tokens.take(Word.FROM) ? tokens.takeNumber(0, LAST_DAY) : 0;
            if (from < 0) {
                return false;
            }
            int until = tokens.take(Word.UNTIL) ? tokens.takeNumber(from, LAST_DAY) : LAST_DAY;
            if (until < 0) {
                return false;
            }
            club.addThing(name, from, until);
            return true;
        }

        private boolean tellMember() {
            long name = tokens.name();
            if (!club.isFree(name) || club.members >= MEMBERS_MOST) {
                return false;
            }
            tokens.skip();
            club.addMember(name);
            return true;
        }

        private boolean tellRule(boolean brings) {
            int first = tokens.takeTold(club.thingNames, club.things, NONE);
            int second = first < 0 ? NONE : tokens.takeTold(club.thingNames, club.things, first);
            if (second < 0) {
                return false;
            }
            int days = Club.BARS;
            if (brings) {
                days = tokens.take(Word.IN) ? tokens.takeNumber(0, LAST_DAY) : NONE;
                if (days < 0) {
                    return false;
                }
            }
            club.addRule(first, second, days);
            return true;
        }

        private boolean tellBet() {
            int one = tokens.takeTold(club.memberNames, club.members, NONE);
            int coin = one < 0 ? NONE : tokens.takeNumber(1, COIN_MOST);
            if (coin < 0 || !tokens.take(Word.TO)) {
                return false;
            }
            int otherCoin = tokens.takeNumber(1, COIN_MOST);
            int other = otherCoin < 0 ? NONE : tokens.takeTold(club.memberNames, club.members, one);
            if (other < 0 || !tokens.take(Word.THAT)) {
                return false;
            }
            Claim that = any(0);
            boolean mayBeOff = that != null && tokens.take(Word.OFF);
            Claim off = mayBeOff ? any(0) : null;
            boolean told = that != null && (off != null || !mayBeOff);
            boolean mayBeDouble = told && tokens.take(Word.DOUBLE);
            Claim twice = mayBeDouble ? any(0) : null;
            if (!told || mayBeDouble && twice == null) {
                return false;
            }
            club.addBet(new Bet(one, other, coin, otherCoin, that, off, twice));
            return true;
        }

        /** A chain of chains: of ALL parts behind each "or", of single ones behind each "and". */
        private Claim any(int open) {
            Claim first = null;
            Claim last = null;
            for (int i = 0; i < TAPE_MOST && (last == null || tokens.take(Word.OR)); i++) {
                Claim firstPart = one(open);
                Claim lastPart = firstPart;
                for (int j = 0; j < TAPE_MOST && lastPart != null && tokens.take(Word.AND); j++) {
                    lastPart.next = one(open);
                    lastPart = lastPart.next;
                }
                if (lastPart == null) {
                    return null;
                }
                Claim all = lastPart == firstPart ? firstPart : Claim.over(Claim.ALL, firstPart);
                if (last == null) {
                    first = all;
                } else {
                    last.next = all;
                }
                last = all;
            }
            return last == first ? first : Claim.over(Claim.ANY, first);
        }

        private Claim one(int open) {
            int nots = 0;
            while (open + nots < OPEN_MOST && tokens.take(Word.NOT)) {
                nots++;
            }
            int within = open + nots;
            if (within >= OPEN_MOST && (tokens.isNext(Word.NOT) || tokens.isNext('('))) {
                return null;
            }
            Claim claim = null;
            if (!tokens.take('(')) {
                claim = tokens.take(Word.LEAST) ? least() : ofThing();
            } else {
                Claim any = any(within + 1);
                claim = any != null && tokens.take(')') ? any : null;
            }
            return claim != null && nots % 2 != 0 ? Claim.over(Claim.NOT, claim) : claim;
        }

        private Claim least() {
            int many = tokens.takeNumber(0, MANY_MOST);
            int day = many >= 0 && tokens.take(Word.BY) ? tokens.takeNumber(0, LAST_DAY) : NONE;
            return day < 0 ? null : Claim.of(Claim.LEAST, many, day);
        }

        private Claim ofThing() {
            int thing = tokens.takeTold(club.thingNames, club.things, NONE);
            if (thing < 0) {
                return null;
            }
            if (tokens.take(Word.COMES)) {
                return Claim.of(Claim.BY, thing, LAST_DAY);
            }
            if (tokens.take(Word.BY)) {
                int day = tokens.takeNumber(0, LAST_DAY);
                return day < 0 ? null : Claim.of(Claim.BY, thing, day);
            }
            int other = tokens.take(Word.BEFORE) ? tokens.takeTold(club.thingNames, club.things, thing) : NONE;
            return other < 0 ? null : Claim.of(Claim.BEFORE, thing, other);
        }
    }

    /** What a BOOK's text tells. */
    private static final class Club {
        /** Instead of the days of "brings". */
        private static final int BARS = -1;

        private int things;
        private int members;
        private int betCount;
        private int ruleCount;
        private int statements;
        private final long[] thingNames = new long[THINGS_MOST];
        private final int[] from = new int[THINGS_MOST];
        private final int[] until = new int[THINGS_MOST];
        private final long[] memberNames = new long[MEMBERS_MOST];
        private final int[] ruleFirst = new int[STATEMENTS_MOST];
        private final int[] ruleSecond = new int[STATEMENTS_MOST];
        private final int[] ruleDays = new int[STATEMENTS_MOST];
        private final Bet[] bets = new Bet[BETS_MOST];

        boolean hasThing(int thing) {
            return thing >= 0 && thing < things;
        }

        boolean hasMember(int member) {
            return member >= 0 && member < members;
        }

        /** The bet of this number, or null. */
        Bet betAt(int w) {
            return w >= 0 && w < betCount && w < bets.length ? bets[w] : null;
        }

        boolean isFree(long name) {
            boolean free = name != 0;
            for (int i = 0; i < things && i < thingNames.length; i++) {
                free &= thingNames[i] != name;
            }
            for (int i = 0; i < members && i < memberNames.length; i++) {
                free &= memberNames[i] != name;
            }
            return free;
        }

        void addThing(long name, int first, int last) {
            if (things < thingNames.length) {
                thingNames[things] = name;
                set(from, things, first);
                set(until, things, last);
                things++;
            }
        }

        void addMember(long name) {
            if (members < memberNames.length) {
                memberNames[members] = name;
                members++;
            }
        }

        void addRule(int first, int second, int days) {
            set(ruleFirst, ruleCount, first);
            set(ruleSecond, ruleCount, second);
            set(ruleDays, ruleCount, days);
            ruleCount++;
        }

        void addBet(Bet bet) {
            if (betCount < bets.length) {
                bets[betCount] = bet;
                betCount++;
            }
        }

        /** The cell of the ROW that has these digits. */
        long cellOf(int[] digits) {
            if (!isInTime(digits)) {
                return 0;
            }
            long cell = isPossible(digits) ? EXISTS | POSSIBLE : EXISTS;
            for (int w = 0; w < betCount && w < bets.length; w++) {
                Bet bet = bets[w];
                if (bet != null) {
                    cell |= 1L << OUTCOMES * w + bet.outcomeIn(digits);
                }
            }
            return cell;
        }

        private boolean isInTime(int[] digits) {
            for (int thing = 0; thing < things; thing++) {
                int day = at(digits, thing) - 1;
                if (day >= 0 && (day < at(from, thing) || day > at(until, thing))) {
                    return false;
                }
            }
            return true;
        }

        private boolean isPossible(int[] digits) {
            for (int i = 0; i < ruleCount; i++) {
                int first = at(digits, at(ruleFirst, i));
                int second = at(digits, at(ruleSecond, i));
                if (first != 0 && !isKept(first, second, at(ruleDays, i))) {
                    return false;
                }
            }
            return true;
        }

        private static boolean isKept(int first, int second, int days) {
            if (days == BARS) {
                return second <= first;
            }
            int term = first + days;
            return term > LAST_DAY + 1 || second != 0 && second <= term;
        }
    }

    /** A WAGER as told. */
    private static final class Bet {
        private final int one;
        private final int other;
        private final int coin;
        private final int otherCoin;
        private final Claim that;
        private final Claim off;
        private final Claim twice;

        Bet(int one, int other, int coin, int otherCoin, Claim that, Claim off, Claim twice) {
            this.one = one;
            this.other = other;
            this.coin = coin;
            this.otherCoin = otherCoin;
            this.that = that;
            this.off = off;
            this.twice = twice;
        }

        int stake(int side) {
            return side == 0 ? coin : otherCoin;
        }

        int outcomeIn(int[] digits) {
            if (off != null && Claim.isTrue(off, digits, 0)) {
                return BettingBook.OFF;
            }
            boolean doubled = twice != null && Claim.isTrue(twice, digits, 0);
            if (Claim.isTrue(that, digits, 0)) {
                return doubled ? WON_TWICE : WON;
            }
            return doubled ? LOST_TWICE : LOST;
        }

        /** What an outcome PAYS. */
        int coinOf(int outcome) {
            switch (outcome) {
                case LOST:
                    return -coin;
                case LOST_TWICE:
                    return -2 * coin;
                case WON:
                    return otherCoin;
                case WON_TWICE:
                    return 2 * otherCoin;
                default:
                    return 0;
            }
        }
    }

    /** A part of what a WAGER is about: of THINGS, or over a chain of parts. */
    private static final class Claim {
        private static final int BY = 0;
        private static final int BEFORE = 1;
        private static final int LEAST = 2;
        private static final int NOT = 3;
        private static final int ALL = 4;
        private static final int ANY = 5;
        // Nine open, each with an "or" and an "and" between it and the next, are less deep than this.
        private static final int DEPTH_MOST = 40;

        private final int kind;
        private final int what;
        private final int by;
        private final Claim parts;
        private Claim next;

        private Claim(int kind, int what, int by, Claim parts) {
            this.kind = kind;
            this.what = what;
            this.by = by;
            this.parts = parts;
        }

        static Claim of(int kind, int what, int by) {
            return new Claim(kind, what, by, null);
        }

        static Claim over(int kind, Claim parts) {
            return new Claim(kind, 0, 0, parts);
        }

        private static boolean isTrue(Claim claim, int[] digits, int depth) {
            if (claim == null || depth > DEPTH_MOST) {
                return false;
            }
            switch (claim.kind) {
                case BY:
                    return comesBy(at(digits, claim.what), claim.by);
                case BEFORE:
                    return comesBefore(at(digits, claim.what), at(digits, claim.by));
                case LEAST:
                    return countBy(digits, claim.by) >= claim.what;
                case NOT:
                    return !isTrue(claim.parts, digits, depth + 1);
                default:
                    break;
            }
            boolean deciding = claim.kind == ANY;
            for (Claim part = claim.parts; part != null; part = part.next) {
                if (isTrue(part, digits, depth + 1) == deciding) {
                    return deciding;
                }
            }
            return !deciding;
        }

        private static boolean comesBy(int digit, int day) {
            return digit != 0 && digit <= day + 1;
        }

        private static boolean comesBefore(int digit, int other) {
            return digit != 0 && (other == 0 || digit < other);
        }

        private static int countBy(int[] digits, int day) {
            int many = 0;
            for (int digit : digits) {
                if (comesBy(digit, day)) {
                    many++;
                }
            }
            return many;
        }
    }

    /** All ROWS by their codes, with what each WAGER comes to in them. */
    private static final class RowTable {
        private static final int LEFT_IN_CLASS = 1 << OUTCOMES;

        private int things;
        private int size;
        private int possible;
        private int left;
        /** The outcomes of the WAGERS that are SURE. */
        private long certain;
        private long[] cells = new long[0];
        private byte[] classes = new byte[0];
        private final int[] digits = new int[THINGS_MOST];
        private final int[] allowed = new int[THINGS_MOST];

        void fill(Club club) {
            things = club.things;
            size = power(RADIX, things);
            if (cells.length < size) {
                cells = new long[size];
                // hangingOn() needs a ninth of the table behind it for each THING that it drops.
                classes = new byte[size + size / (RADIX - 1) + 1];
            }
            possible = 0;
            Arrays.fill(digits, 0);
            for (int code = 0; code < size && code < cells.length; code++) {
                cells[code] = club.cellOf(digits);
                if ((cells[code] & POSSIBLE) != 0) {
                    possible++;
                }
                stepDigits();
            }
        }

        /** Marks the ROWS LEFT: how many. */
        int mark(Ledger ledger) {
            for (int thing = 0; thing < things; thing++) {
                set(allowed, thing, ledger.allowedDigits(thing));
            }
            left = 0;
            long seen = 0;
            Arrays.fill(digits, 0);
            for (int code = 0; code < size && code < cells.length; code++) {
                long cell = cells[code] & ~LEFT;
                if ((cell & POSSIBLE) != 0 && areAllowed()) {
                    cell |= LEFT;
                    seen |= cell;
                    left++;
                }
                cells[code] = cell;
                stepDigits();
            }
            certain = singleOutcomes(seen);
            return left;
        }

        /** A ROW's cell, 0 where there is none. */
        long cellAt(int code) {
            return code >= 0 && code < size && code < cells.length ? cells[code] : 0;
        }

        boolean isSure(int w) {
            return outcomeBits(certain, w) != 0;
        }

        /** The code of a ROW LEFT, or NONE. */
        int leftCode(int k) {
            int before = 0;
            for (int code = 0; code < size; code++) {
                if ((cellAt(code) & LEFT) != 0) {
                    if (before == k) {
                        return code;
                    }
                    before++;
                }
            }
            return NONE;
        }

        int countLeft(int w, int outcomes) {
            int count = 0;
            for (int code = 0; code < size; code++) {
                long cell = cellAt(code);
                if ((cell & LEFT) != 0 && (outcomeBits(cell, w) & outcomes) != 0) {
                    count++;
                }
            }
            return count;
        }

        /** WHEN: on each DAY ahead of it some ROW that's alike till then PAYS something else. */
        int decidedOn(int w, int code) {
            int own = outcomeBits(cellAt(code), w);
            int day = 0;
            for (int other = 0; other < size; other++) {
                long cell = cellAt(other);
                if ((cell & POSSIBLE) != 0 && outcomeBits(cell, w) != own) {
                    day = Math.max(day, partingDay(code, other));
                }
            }
            return day;
        }

        /** LATEST: forgets the DAYS from the last one on, until a ROW LEFT is no longer decided. */
        int lastDecided(int w) {
            for (int code = 0; code < size; code++) {
                long cell = cellAt(code);
                int outcomes = (cell & POSSIBLE) == 0 ? 0 : outcomeBits(cell, w);
                setClass(code, (cell & LEFT) == 0 ? outcomes : outcomes | LEFT_IN_CLASS);
            }
            for (int day = LAST_DAY; day > 0; day--) {
                if (!forgetDay(day)) {
                    return day;
                }
            }
            return 0;
        }

        int hangingOn(int w) {
            for (int code = 0; code < size; code++) {
                long cell = cellAt(code);
                setClass(code, (cell & LEFT) == 0 ? 0 : outcomeBits(cell, w));
            }
            return fewestThings(this, 0, size, 0, (1 << things) - 1);
        }

        /** Of the THINGS kept and what is left of them without some from this one on: the fewest that tell all. */
        private static int fewestThings(RowTable table, int offset, int length, int from, int kept) {
            int fewest = kept;
            int dropped = table.things - Integer.bitCount(kept);
            for (int thing = from; thing < table.things && thing < THINGS_MOST; thing++) {
                if (table.dropThing(offset, length, power(RADIX, thing - dropped))) {
                    int rest = kept & ~(1 << thing);
                    fewest = fewer(fewest, fewestThings(table, offset + length, length / RADIX, thing + 1, rest));
                }
            }
            return fewest;
        }

        private static int fewer(int one, int other) {
            int less = Integer.compare(Integer.bitCount(one), Integer.bitCount(other));
            if (less == 0) {
                return Math.min(one, other);
            }
            return less < 0 ? one : other;
        }

        /** Joins the classes that differ in one THING alone, behind the table: false, if some are unlike. */
        private boolean dropThing(int offset, int length, int step) {
            int blocks = step > 0 ? length / (RADIX * step) : 0;
            for (int block = 0; block < blocks; block++) {
                for (int low = 0; low < step; low++) {
                    int joined = 0;
                    for (int digit = 0; digit < RADIX; digit++) {
                        joined |= classAt(offset + (block * RADIX + digit) * step + low);
                    }
                    if (isMixed(joined)) {
                        return false;
                    }
                    setClass(offset + length + block * step + low, joined);
                }
            }
            return true;
        }

        /** Joins the classes that are alike ahead of a DAY: false, if a ROW LEFT gets among unlike ones. */
        private boolean forgetDay(int day) {
            int step = 1;
            for (int thing = 0; thing < things; thing++) {
                for (int block = 0; block < size; block += RADIX * step) {
                    if (!joinDay(block, step, day)) {
                        return false;
                    }
                }
                step *= RADIX;
            }
            return true;
        }

        private boolean joinDay(int block, int step, int day) {
            for (int never = block; never < block + step; never++) {
                int joined = classAt(never) | classAt(never + (day + 1) * step);
                if ((joined & LEFT_IN_CLASS) != 0 && isMixed(joined & OUTCOME_BITS)) {
                    return false;
                }
                setClass(never, joined);
            }
            return true;
        }

        private static boolean isMixed(int outcomes) {
            return (outcomes & outcomes - 1) != 0;
        }

        private int classAt(int place) {
            return place >= 0 && place < classes.length ? classes[place] : 0;
        }

        private void setClass(int place, int outcomes) {
            if (place >= 0 && place < classes.length) {
                classes[place] = (byte) outcomes;
            }
        }

        /** The first DAY on which something comes in one ROW and not in the other. */
        private int partingDay(int one, int other) {
            int first = RADIX;
            int restOne = one;
            int restOther = other;
            for (int thing = 0; thing < things; thing++) {
                int digit = restOne % RADIX;
                int otherDigit = restOther % RADIX;
                if (digit != otherDigit) {
                    first = Math.min(first, digit == 0 ? otherDigit : digit);
                    first = Math.min(first, otherDigit == 0 ? digit : otherDigit);
                }
                restOne /= RADIX;
                restOther /= RADIX;
            }
            return first - 1;
        }

        private boolean areAllowed() {
            for (int thing = 0; thing < things; thing++) {
                if ((at(allowed, thing) >> at(digits, thing) & 1) == 0) {
                    return false;
                }
            }
            return true;
        }

        /** Goes on to the digits of the next code. */
        private void stepDigits() {
            for (int thing = 0; thing < digits.length; thing++) {
                digits[thing]++;
                if (digits[thing] < RADIX) {
                    return;
                }
                digits[thing] = 0;
            }
        }

        private static long singleOutcomes(long seen) {
            long single = 0;
            for (int w = 0; w < BETS_MOST; w++) {
                int outcomes = outcomeBits(seen, w);
                if (!isMixed(outcomes)) {
                    single |= (long) outcomes << OUTCOMES * w;
                }
            }
            return single;
        }
    }

    /** What changes from DAY to DAY, and what an IMAGE keeps. */
    private static final class Ledger {
        private int today;
        private int sidesSold;
        /** For each THING 0, or the DAY on which it came and 1. */
        private final int[] came = new int[THINGS_MOST];
        /** Who holds the sides, two for each WAGER. */
        private final int[] holders = new int[2 * BETS_MOST];
        /** What each MEMBER has to get without any WAGER. */
        private final int[] balance = new int[MEMBERS_MOST];

        void open(Club club) {
            today = 0;
            sidesSold = 0;
            Arrays.fill(came, 0);
            Arrays.fill(balance, 0);
            for (int w = 0; w < club.betCount; w++) {
                Bet bet = club.betAt(w);
                if (bet != null) {
                    set(holders, 2 * w, bet.one);
                    set(holders, 2 * w + 1, bet.other);
                }
            }
        }

        void become(Ledger other) {
            today = other.today;
            sidesSold = other.sidesSold;
            copyRow(other.came, came);
            copyRow(other.holders, holders);
            copyRow(other.balance, balance);
        }

        int holder(int w, int side) {
            return at(holders, 2 * w + side);
        }

        void sellSide(int w, int side, int buyer, int coin) {
            credit(holder(w, side), buyer, coin);
            set(holders, 2 * w + side, buyer);
            sidesSold++;
        }

        /** One has to get coin from the other from now on. */
        void credit(int one, int other, int coin) {
            set(balance, one, at(balance, one) + coin);
            set(balance, other, at(balance, other) - coin);
        }

        int cameBits() {
            int bits = 0;
            for (int thing = 0; thing < came.length; thing++) {
                if (came[thing] != 0) {
                    bits |= 1 << thing;
                }
            }
            return bits;
        }

        /** The digits, as bits, that a THING has in ROWS LEFT. */
        int allowedDigits(int thing) {
            int digit = at(came, thing);
            if (digit != 0) {
                return 1 << digit;
            }
            int all = (1 << RADIX) - 1;
            int gone = (1 << today + 1) - 1;
            return all & ~gone | 1;
        }

        private static void copyRow(int[] from, int[] to) {
            for (int i = 0; i < to.length; i++) {
                to[i] = at(from, i);
            }
        }
    }

    /** What each outcome of each WAGER pays somebody. */
    private static final class Gains {
        private final int[] coins = new int[OUTCOMES * BETS_MOST];

        void clear() {
            Arrays.fill(coins, 0);
        }

        void ofMember(Club club, Ledger ledger, int member) {
            clear();
            for (int w = 0; w < club.betCount; w++) {
                for (int side = 0; side < 2; side++) {
                    if (ledger.holder(w, side) == member) {
                        addSide(club.betAt(w), w, side);
                    }
                }
            }
        }

        void addSide(Bet bet, int w, int side) {
            if (bet == null) {
                return;
            }
            for (int outcome = 0; outcome < OUTCOMES; outcome++) {
                int place = OUTCOMES * w + outcome;
                int coin = bet.coinOf(outcome);
                set(coins, place, at(coins, place) + (side == 0 ? coin : -coin));
            }
        }

        int sum(long cell) {
            int coin = 0;
            long rest = cell & ALL_OUTCOMES;
            for (int i = 0; i < BETS_MOST && rest != 0; i++) {
                coin += at(coins, Long.numberOfTrailingZeros(rest));
                rest &= rest - 1;
            }
            return coin;
        }
    }

    /** CHANCES, and what sides are worth by them. */
    private static final class Odds {
        private final int[] parts = new int[RADIX * THINGS_MOST];

        void clear() {
            Arrays.fill(parts, 0);
        }

        void setParts(int thing, int digit, int value) {
            set(parts, RADIX * thing + digit, value);
        }

        boolean areWhole(int things) {
            for (int thing = 0; thing < things; thing++) {
                int sum = 0;
                for (int digit = 0; digit < RADIX; digit++) {
                    sum += at(parts, RADIX * thing + digit);
                }
                if (sum != PARTS_WHOLE) {
                    return false;
                }
            }
            return true;
        }

        long worthOf(RowTable table, Gains gains, int what) {
            if (what < 0 || what > 1 || !areWhole(table.things)) {
                return NO_WORTH;
            }
            long upper = 0;
            long lower = 0;
            for (int code = 0; code < table.size; code++) {
                long cell = table.cellAt(code);
                long weight = (cell & LEFT) == 0 ? 0 : weightOf(code, table.things);
                if (weight != 0) {
                    upper += weight * gains.sum(cell);
                    lower += weight;
                }
            }
            long divisor = commonDivisor(upper, lower);
            if (lower == 0 || divisor == 0) {
                return NO_WORTH;
            }
            return (what == 0 ? upper : lower) / divisor;
        }

        private long weightOf(int code, int things) {
            long weight = 1;
            int rest = code;
            for (int thing = 0; thing < things; thing++) {
                weight *= at(parts, RADIX * thing + rest % RADIX);
                rest /= RADIX;
            }
            return weight;
        }

        private static long commonDivisor(long one, long other) {
            long greater = Math.abs(one);
            long less = Math.abs(other);
            // Euclid's steps on numbers of 63 bits stay below 100.
            for (int i = 0; i < 100 && less != 0; i++) {
                long rest = greater % less;
                greater = less;
                less = rest;
            }
            return greater;
        }
    }

    /** The search for WIN. */
    private static final class Winner {
        private final Bet[] chosen = new Bet[WIN_MOST];
        private final int[] numbers = new int[WIN_MOST];
        private int chosenCount;
        /** The outcomes of the chosen WAGERS together, each combination that some ROW LEFT has once. */
        private long[] combinations = new long[0];
        private int combinationCount;
        private int bestCode;
        private int bestCoin;

        /** Takes the WAGERS that aren't SURE, and their combinations: false, if they are none or too many. */
        boolean choose(Club club, RowTable table, int wagers) {
            chosenCount = 0;
            for (int w = 0; w < club.betCount; w++) {
                if ((wagers >> w & 1) != 0 && !table.isSure(w)) {
                    if (chosenCount >= chosen.length) {
                        return false;
                    }
                    chosen[chosenCount] = club.betAt(w);
                    set(numbers, chosenCount, w);
                    chosenCount++;
                }
            }
            if (chosenCount > 0) {
                combine(table);
            }
            return chosenCount > 0;
        }

        void search(Gains gains) {
            bestCode = NONE;
            bestCoin = NONE;
            int codes = power(3, chosenCount);
            for (int code = 1; code < codes; code++) {
                int coin = takeSides(code, gains);
                if ((bestCode == NONE || coin < bestCoin) && canOnlyWin(gains)) {
                    bestCode = code;
                    bestCoin = coin;
                }
            }
        }

        private void combine(RowTable table) {
            int most = power(OUTCOMES, chosenCount);
            if (combinations.length < most) {
                combinations = new long[most];
            }
            Arrays.fill(combinations, 0);
            for (int code = 0; code < table.size; code++) {
                long cell = table.cellAt(code);
                if ((cell & LEFT) != 0) {
                    addCombination(cell);
                }
            }
            combinationCount = 0;
            for (long combination : combinations) {
                if (combination != 0 && combinationCount < combinations.length) {
                    combinations[combinationCount] = combination;
                    combinationCount++;
                }
            }
        }

        private void addCombination(long cell) {
            int place = 0;
            long combination = 0;
            for (int i = 0; i < chosenCount; i++) {
                int w = at(numbers, i);
                place = place * OUTCOMES + outcome(cell, w);
                combination |= cell & (long) OUTCOME_BITS << OUTCOMES * w;
            }
            if (place >= 0 && place < combinations.length) {
                combinations[place] = combination;
            }
        }

        /** The coin staked with the sides that a code takes. */
        private int takeSides(int code, Gains gains) {
            gains.clear();
            int coin = 0;
            int rest = code;
            for (int i = 0; i < chosenCount && i < chosen.length; i++) {
                Bet bet = chosen[i];
                int side = rest % 3 - 1;
                if (side >= 0 && bet != null) {
                    gains.addSide(bet, at(numbers, i), side);
                    coin += bet.stake(side);
                }
                rest /= 3;
            }
            return coin;
        }

        private boolean canOnlyWin(Gains gains) {
            boolean wins = false;
            for (int i = 0; i < combinationCount && i < combinations.length; i++) {
                int coin = gains.sum(combinations[i]);
                if (coin < 0) {
                    return false;
                }
                wins |= coin > 0;
            }
            return wins;
        }
    }
}
