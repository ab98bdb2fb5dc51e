import java.util.regex.Matcher;
import java.util.regex.Pattern;

/** Promises 1 to 5: a test for each sentence that names a boundary, those of the BOOK's text under promise 4. */
final class TextBoundariesTest {
    private static final int NO_COIN = -1000000;
    private static final long NO_WORTH = -1000000000000000L;
    private static final String TWO = "thing r;thing s;member a;member b;";
    private static final String BET = TWO + "bet a 1 to 1 b that ";
    private static final String CLAIM = "least 0 by 0";
    /** Every kind of STATEMENT and of ONE. */
    private static final String ALL_KINDS = "thing rain from 1 until 6;thing war;member ann;member bob;"
        + "bars rain war;brings war rain in 2;bet ann 3 to 4 bob that not(rain comes or war by 2)and rain before war "
        + "or least 1 by 3 off war comes double rain by 4;";

    public static void main(String[] arguments) {
        Boundaries.runAll(TextBoundariesTest.class, 1, 5);
    }

    // Promise 1: a new object

    static void promise01_noThingsMembersWagers(Due due) {
        BettingBook book = new BettingBook();
        due.is("told(0)", book.told(0), 0);
        due.is("told(1)", book.told(1), 0);
        due.is("told(2)", book.told(2), 0);
        due.is("told(3)", book.told(3), 0);
    }

    static void promise01_oneRowOfCode0(Due due) {
        BettingBook book = new BettingBook();
        due.is("rows(-1)", book.rows(-1), 1);
        due.is("rows(0)", book.rows(0), 0);
        due.is("rows(1)", book.rows(1), -1);
        due.is("fits(0)", book.fits(0), 2);
        due.is("fits(1)", book.fits(1), -1);
        due.is("count(6)", book.count(6), 1);
    }

    static void promise01_noneSuchOfAll(Due due) {
        BettingBook book = new BettingBook();
        due.is("fault()", book.fault(), -1);
        due.is("told(100)", book.told(100), -1);
        due.is("wager(0, 0)", book.wager(0, 0), -1);
        due.is("come(0)", book.come(0), -1);
        due.is("chance(0, 0, 0)", book.chance(0, 0, 0), false);
        due.is("sell(0, 0, 0, 0)", book.sell(0, 0, 0, 0), false);
        due.is("paid(0, 1, 1)", book.paid(0, 1, 1), false);
        due.is("pays(0, 0)", book.pays(0, 0), NO_COIN);
        due.is("sure(0, 0)", book.sure(0, 0), NO_COIN);
        due.is("split(0, 0)", book.split(0, 0), -1);
        due.is("when(0, 0)", book.when(0, 0), -1);
        due.is("latest(0)", book.latest(0), -1);
        due.is("hang(0)", book.hang(0), -1);
        due.is("same(0, 0)", book.same(0, 0), -2);
        due.is("has(0)", book.has(0), NO_COIN);
        due.is("may(0, 0)", book.may(0, 0), NO_COIN);
        due.is("end(0, 0)", book.end(0, 0), NO_COIN);
        due.is("settle()", book.settle(), 0);
        due.is("best(0)", book.best(0), -1);
        due.is("win(0, 0)", book.win(0, 0), -1);
        due.is("win(1, 0)", book.win(1, 0), -1);
        due.is("worth(0, 0)", book.worth(0, 0), NO_WORTH);
        due.is("holds(0, 0)", book.holds(0, 0), NO_WORTH);
        due.is("luck(0, 0)", book.luck(0, 0), -1);
        due.is("back(0)", book.back(0), false);
    }

    static void promise01_daysGoByWithoutABook(Due due) {
        BettingBook book = new BettingBook();
        due.is("count(1)", book.count(1), 0);
        due.is("day(0)", book.day(0), -1);
        due.is("day(7)", book.day(7), 1);
        due.is("count(1) then", book.count(1), 7);
    }

    // Promise 2: feed

    static void promise02_theHighestByteFirst(Due due) {
        BettingBook book = new BettingBook();
        due.is("feed", book.feed(0x7468696e, 0x67206162, 0x63646566, 0x67683b74, 0x68696e67), 20);
        due.is("book(15)", book.book(15), 0);
        due.is("fault()", book.fault(), -1);
        due.is("told(0)", book.told(0), 1);
    }

    static void promise02_bytesAbove127(Due due) {
        for (int place = 0; place < 4; place++) {
            BettingBook book = new BettingBook();
            int blanks = 0x20202020;
            book.feed(blanks, blanks & ~(255 << 8 * place) | 0xa0 << 8 * place, blanks, blanks, blanks);
            due.is("book(20)", book.book(20), -1);
            due.is("fault() at byte " + (7 - place), book.fault(), 7 - place);
        }
    }

    static void promise02_behindThoseOnTheTape(Due due) {
        BettingBook book = new BettingBook();
        due.is("the first", Texts.feed(book, "thing a;thing b;thin"), 20);
        due.is("count(3)", book.count(3), 20);
        due.is("the second", book.feed(0x6720633b, 0x20202020, 0x20202020, 0x20202020, 0x20202020), 40);
        due.is("count(3) then", book.count(3), 40);
        due.is("book(24)", book.book(24), 0);
        due.is("told(0)", book.told(0), 3);
    }

    static void promise02_twelveHundredBytes(Due due) {
        BettingBook book = new BettingBook();
        Texts.feed(book, " ".repeat(1192) + "thing a;");
        due.is("count(3)", book.count(3), 1200);
        due.is("book(1200)", book.book(1200), 0);
        due.is("told(0)", book.told(0), 1);
    }

    static void promise02_moreThan1200DoesNothing(Due due) {
        BettingBook book = new BettingBook();
        for (int i = 1; i <= 60; i++) {
            due.is("feed " + i, book.feed(0x20202020, 0x20202020, 0x20202020, 0x20202020, 0x20202020), 20 * i);
        }
        due.is("feed 61", book.feed(0x3f3f3f3f, 0x3f3f3f3f, 0x3f3f3f3f, 0x3f3f3f3f, 0x3f3f3f3f), -1);
        due.is("feed 62", book.feed(0, 0, 0, 0, 0), -1);
        due.is("count(3)", book.count(3), 1200);
        due.is("book(1200)", book.book(1200), 0);
    }

    static void promise02_fromTheBeginningAfterABook(Due due) {
        BettingBook book = new BettingBook();
        Texts.feed(book, " ".repeat(1200));
        book.book(3);
        due.is("feed", book.feed(0x7468696e, 0x6720613b, 0, 0, 0), 20);
        due.is("book(8)", book.book(8), 0);
        due.is("told(0)", book.told(0), 1);
    }

    // Promise 3: book

    static void promise03_noBytes(Due due) {
        BettingBook book = new BettingBook();
        due.is("book(0) of an empty tape", book.book(0), 0);
        due.is("count(0)", book.count(0), 1);
        Texts.feed(book, "thing a;");
        due.is("book(0) of a full one", book.book(0), 0);
        due.is("count(0) then", book.count(0), 2);
        due.is("told(0)", book.told(0), 0);
        due.is("count(3)", book.count(3), 0);
    }

    static void promise03_belowNoBytes(Due due) {
        BettingBook book = Texts.book("thing a;");
        Texts.feed(book, "thing b;thing c;");
        due.is("book(-1)", book.book(-1), -2);
        due.is("book(the least number)", book.book(Integer.MIN_VALUE), -2);
        due.is("the tape is as it was", book.count(3), 20);
        due.is("the BOOK is as it was", book.told(0), 1);
        due.is("count(0) is as it was", book.count(0), 1);
    }

    static void promise03_moreBytesThanThereAre(Due due) {
        BettingBook book = Texts.book("thing a;");
        due.is("book(1) of an empty tape", book.book(1), -2);
        Texts.feed(book, "thing b;thing c;");
        due.is("book(21)", book.book(21), -2);
        due.is("book(the greatest number)", book.book(Integer.MAX_VALUE), -2);
        due.is("the tape is as it was", book.count(3), 20);
        due.is("the BOOK is as it was", book.told(0), 1);
        due.is("count(0) is as it was", book.count(0), 1);
        due.is("book(16) then", book.book(16), 0);
        due.is("told(0)", book.told(0), 2);
    }

    static void promise03_asManyBytesAsThereAre(Due due) {
        BettingBook book = new BettingBook();
        Texts.feed(book, "thing a;member abcde;");
        Texts.feed(book, "");
        due.is("count(3)", book.count(3), 40);
        due.is("book(40)", book.book(40), 0);
        due.is("told(1)", book.told(1), 1);
    }

    static void promise03_theFirstBytesAlone(Due due) {
        BettingBook book = new BettingBook();
        Texts.feed(book, "thing a;thing b;?");
        due.is("book(8)", book.book(8), 0);
        due.is("told(0)", book.told(0), 1);
        Texts.feed(book, "thing a;thing b;");
        due.is("book(9)", book.book(9), -1);
        due.is("a part of a word", book.fault(), 8);
    }

    static void promise03_theTapeIsEmptyThen(Due due) {
        BettingBook book = new BettingBook();
        Texts.feed(book, "thing a;thing b;thing c;");
        due.is("book(8)", book.book(8), 0);
        due.is("count(3)", book.count(3), 0);
        due.is("book(8) again", book.book(8), -2);
    }

    static void promise03_theTapeIsEmptyAfterAFault(Due due) {
        BettingBook book = new BettingBook();
        Texts.feed(book, "thing ;thing b;thing c;");
        due.is("book(8)", book.book(8), -1);
        due.is("count(3)", book.count(3), 0);
        due.is("book(1)", book.book(1), -2);
    }

    static void promise03_howManyWagers(Due due) {
        due.is("none", Texts.tell(new BettingBook(), TWO), 0);
        String bet = "bet a 1 to 1 b that r comes;";
        due.is("one", Texts.tell(new BettingBook(), TWO + bet), 1);
        due.is("twelve", Texts.tell(new BettingBook(), TWO + bet.repeat(12)), 12);
    }

    static void promise03_withAFaultTheBookIsAsItWas(Due due) {
        BettingBook book = Texts.book(BET + "r comes;");
        book.chance(0, 0, 100);
        book.chance(1, -1, 100);
        book.image();
        book.day(2);
        book.come(1);
        book.sell(0, 0, 1, 5);
        book.paid(0, 1, 7);
        due.is("a whole BOOK, and then a fault", Texts.tell(book, "thing x;member y;bet"), -1);
        int[] counts = {1, 2, 2, 0, 1, 0, 81, 1, 1};
        for (int what = 0; what < counts.length; what++) {
            due.is("count(" + what + ")", book.count(what), counts[what]);
        }
        due.is("told(3)", book.told(3), 5);
        due.is("rows(-1)", book.rows(-1), 7);
        due.is("wager(0, 0)", book.wager(0, 0), 1);
        due.is("has(0)", book.has(0), 12);
        due.is("back(0)", book.back(0), true);
    }

    static void promise03_whatWasToldOfDaysIsGone(Due due) {
        BettingBook book = Texts.book(BET + "r comes;");
        book.day(3);
        book.come(0);
        Texts.tell(book, BET + "r comes;");
        due.is("count(1)", book.count(1), 0);
        due.is("count(2)", book.count(2), 0);
        due.is("rows(-1)", book.rows(-1), 81);
        due.is("sure(0, 0)", book.sure(0, 0), 0);
    }

    static void promise03_whatWasSoldAndPaidIsGone(Due due) {
        BettingBook book = Texts.book(BET + "r comes;");
        book.sell(0, 0, 1, 5);
        book.paid(0, 1, 70);
        Texts.tell(book, BET + "r comes;");
        due.is("wager(0, 0)", book.wager(0, 0), 0);
        due.is("wager(0, 1)", book.wager(0, 1), 1);
        due.is("has(0)", book.has(0), 0);
        due.is("has(1)", book.has(1), 0);
        due.is("count(8)", book.count(8), 0);
    }

    static void promise03_chancesAreGone(Due due) {
        BettingBook book = Texts.book(TWO);
        book.chance(0, -1, 100);
        book.chance(1, -1, 100);
        due.is("count(7)", book.count(7), 1);
        Texts.tell(book, TWO);
        due.is("count(7) then", book.count(7), 0);
    }

    static void promise03_imagesAreGone(Due due) {
        BettingBook book = Texts.book(TWO);
        for (int i = 0; i < 4; i++) {
            book.image();
        }
        Texts.tell(book, TWO);
        due.is("count(4)", book.count(4), 0);
        due.is("back(0)", book.back(0), false);
        due.is("image()", book.image(), 0);
    }

    static void promise03_aLesserBookBehindAGreaterOne(Due due) {
        BettingBook book = Texts.book("thing c;thing d;thing e;" + BET + "r comes;");
        due.is("rows(-1)", book.rows(-1), 59049);
        Texts.tell(book, "thing x until 0;member y;");
        due.is("rows(-1) then", book.rows(-1), 2);
        due.is("rows(2)", book.rows(2), -1);
        due.is("count(6)", book.count(6), 2);
        due.is("fits(9)", book.fits(9), -1);
        due.is("told(2)", book.told(2), 0);
        due.is("told(102)", book.told(102), -1);
        due.is("wager(0, 0)", book.wager(0, 0), -1);
        due.is("has(1)", book.has(1), NO_COIN);
        Texts.tell(book, "thing c;thing d;thing e;" + BET + "r comes;");
        due.is("rows(-1) at last", book.rows(-1), 59049);
        due.is("pays(0, 59048)", book.pays(0, 59048), 1);
    }

    // Promise 4: fault, and where it is in a text

    static void promise04_noneAtFirst(Due due) {
        due.is("fault()", new BettingBook().fault(), -1);
    }

    static void promise04_ofTheLatestBook(Due due) {
        BettingBook book = new BettingBook();
        Texts.tell(book, "thing a;bet");
        due.is("a fault", book.fault(), 11);
        Texts.tell(book, "thing ;");
        due.is("another fault", book.fault(), 6);
        Texts.tell(book, "thing a;");
        due.is("none", book.fault(), -1);
    }

    static void promise04_notOfABookThatDidNothing(Due due) {
        BettingBook book = new BettingBook();
        Texts.tell(book, "thing ;");
        book.book(1);
        due.is("a fault stays", book.fault(), 6);
        book.book(-1);
        due.is("a fault stays still", book.fault(), 6);
        book.book(0);
        book.book(1);
        due.is("none stays none", book.fault(), -1);
    }

    static void promise04_noStatements(Due due) {
        due.is("no bytes", Texts.fault(""), -1);
        due.is("blanks", Texts.fault(" \n"), -1);
        due.is("a sign alone", Texts.fault(";"), 0);
        due.is("two signs", Texts.fault("thing a;;"), 8);
    }

    static void promise04_theTextsLengthIfMoreMustCome(Due due) {
        Matcher token = Pattern.compile("[a-z]+|[0-9]+|[;()]").matcher(ALL_KINDS);
        int found = 0;
        while (token.find()) {
            boolean ends = token.group().equals(";");
            due.is("cut off behind " + ALL_KINDS.substring(0, token.end()),
                Texts.fault(ALL_KINDS.substring(0, token.end())), ends ? -1 : token.end());
            due.is("and blanks behind " + ALL_KINDS.substring(0, token.end()),
                Texts.fault(ALL_KINDS.substring(0, token.end()) + " \n "), ends ? -1 : token.end() + 3);
            found++;
        }
        due.is("tokens", found, 59);
    }

    static void promise04_theFirstByteThatBeginsNone(Due due) {
        Matcher token = Pattern.compile("[a-z]+|[0-9]+|[;()]").matcher(ALL_KINDS);
        while (token.find()) {
            String text = ALL_KINDS.substring(0, token.start()) + " ?" + ALL_KINDS.substring(token.start());
            due.is(text, Texts.fault(text), token.start() + 1);
        }
    }

    static void promise04_theFirstTokenThatCantStandThere(Due due) {
        Matcher token = Pattern.compile("[a-z]+|[0-9]+|[;()]").matcher(ALL_KINDS);
        while (token.find()) {
            String text = ALL_KINDS.substring(0, token.start()) + " that that " + ALL_KINDS.substring(token.start());
            boolean mayStand = token.group().equals("that");
            due.is(text, Texts.fault(text), token.start() + (mayStand ? 6 : 1));
        }
    }

    static void promise04_everyByteBehindAToken(Due due) {
        for (int sign = 0; sign < 256; sign++) {
            boolean blank = sign == 32 || sign == 10;
            boolean letter = sign >= 'a' && sign <= 'z';
            int place = blank || letter ? -1 : sign == ';' ? 8 : 7;
            due.is("byte " + sign, Texts.fault("thing a" + (char) sign + ";"), place);
        }
    }

    static void promise04_blanksBetweenTokens(Due due) {
        due.is("many", Texts.fault("thing  \n\n a \n from\n1  until \n 2\n;"), -1);
        due.is("none, where tokens end by themselves", Texts.fault(ALL_KINDS.replace(" 3 to 4 bob", " 3to 4bob")
            .replace("from 1 until 6", "from 1until 6")), -1);
        due.is("ahead of the first, behind the last", Texts.fault("\n thing a; \n"), -1);
    }

    static void promise04_tokensAsLongAsTheyGo(Due due) {
        due.is("two words are one", Texts.fault("thing rainfrom 1;"), 15);
        due.is("a word and more", Texts.fault("things a;"), 0);
        due.is("two numbers are one", Texts.fault("thing a from 1 2;"), 15);
        due.is("ten isn't one and 0", Texts.fault("thing a from 10;"), 13);
        due.is("a number ends a word", Texts.fault("thing a0;"), 7);
        due.is("a word ends a number", Texts.fault("thing a from 1x;"), 14);
        due.is("signs are single", Texts.fault(BET + "((r comes));"), -1);
    }

    static void promise04_aNameOfOneLetter(Due due) {
        due.is("a thing", Texts.fault("thing q;"), -1);
        due.is("a member", Texts.fault("member q;"), -1);
        due.is("none", Texts.fault("member ;"), 7);
    }

    static void promise04_aNameOfEightLetters(Due due) {
        due.is("a thing", Texts.fault("thing abcdefgh;"), -1);
        due.is("a member", Texts.fault("member zzzzzzzz;"), -1);
        due.is("they are told apart by the first and the last letter",
            Texts.fault("thing abcdefgh;thing bbcdefgh;thing abcdefgg;bars bbcdefgh abcdefgg;"), -1);
        due.is("and found again", Texts.fault("thing abcdefgh;thing abcdefgh;"), 21);
    }

    static void promise04_namesOfLikeLettersAreOthers(Due due) {
        due.is("one letter more ahead", Texts.fault("thing p;thing ap;thing z;thing az;thing aaz;"), -1);
        due.is("one letter more behind", Texts.fault("member a;member aa;member az;member aza;"), -1);
        due.is("the other way round", Texts.fault("member ab;member ba;member ob;member bo;"), -1);
        due.is("parts of words, and words with more", Texts.fault("thing th;thing thin;thing things;thing n;thing no;"),
            -1);
    }

    static void promise04_aNameOfNineLetters(Due due) {
        due.is("a thing", Texts.fault("thing abcdefghi;"), 6);
        due.is("a member", Texts.fault("member abcdefghi;"), 7);
        due.is("nine and twenty", Texts.fault("thing " + "a".repeat(29) + ";"), 6);
        due.is("used with nine", Texts.fault("thing abcdefgh;thing b;bars b abcdefghi;"), 30);
        due.is("used with nine, the last eight alike", Texts.fault("thing abcdefgh;thing b;bars b xabcdefgh;"), 30);
    }

    static void promise04_noneOfTheWords(Due due) {
        String[] words = {"thing", "from", "until", "member", "bars", "brings", "in", "bet", "to", "that", "off",
            "double", "or", "and", "not", "comes", "by", "before", "least"};
        for (String word : words) {
            due.is("thing " + word, Texts.fault("thing " + word + ";"), 6);
            due.is("member " + word, Texts.fault("member " + word + ";"), 7);
            String longer = word.substring(1) + "q";
            due.is("thing " + longer, Texts.fault("thing " + longer + ";"), -1);
        }
    }

    static void promise04_aNameToldYet(Due due) {
        due.is("by the first thing", Texts.fault("thing a;thing b;thing a;"), 22);
        due.is("by the last thing", Texts.fault("thing a;thing b;thing b;"), 22);
        due.is("a member by the first thing", Texts.fault("thing a;thing b;member a;"), 23);
        due.is("a member by the first member", Texts.fault("member a;member b;member a;"), 25);
        due.is("a member by the last member", Texts.fault("member a;member b;member b;"), 25);
        due.is("a thing by the first member", Texts.fault("member a;member b;thing a;"), 24);
    }

    static void promise04_aNameNotToldYet(Due due) {
        due.is("a thing told later", Texts.fault("thing a;bars a b;thing b;"), 15);
        due.is("a member told later", Texts.fault("thing r;member a;bet a 1 to 1 b that r comes;member b;"), 30);
        due.is("a thing in its own wager", Texts.fault("member a;member b;bet a 1 to 1 b that r comes;"), 38);
    }

    static void promise04_aNameToldAsTheOtherKind(Due due) {
        due.is("bars of a member", Texts.fault(TWO + "bars a r;"), 39);
        due.is("bars with a member", Texts.fault(TWO + "bars r a;"), 41);
        due.is("brings of a member", Texts.fault(TWO + "brings a r in 1;"), 41);
        due.is("brings with a member", Texts.fault(TWO + "brings r a in 1;"), 43);
        due.is("bet of a thing", Texts.fault(TWO + "bet r 1 to 1 b that r comes;"), 38);
        due.is("bet with a thing", Texts.fault(TWO + "bet a 1 to 1 r that r comes;"), 47);
        due.is("a member comes", Texts.fault(BET + "a comes;"), BET.length());
        due.is("before a member", Texts.fault(BET + "r before b;"), BET.length() + 9);
    }

    static void promise04_theSecondOneIsAnother(Due due) {
        due.is("bars", Texts.fault(TWO + "bars s s;"), 41);
        due.is("brings", Texts.fault(TWO + "brings r r in 1;"), 43);
        due.is("bet", Texts.fault(TWO + "bet b 1 to 1 b that r comes;"), 47);
        due.is("before", Texts.fault(BET + "s before s;"), BET.length() + 9);
        due.is("before, the first one", Texts.fault(BET + "r before r;"), BET.length() + 9);
        due.is("the other way round", Texts.fault(BET + "s before r;"), -1);
    }

    /** A text up to a DAY and one behind it. */
    private static final String[][] DAYS = {{"thing x from ", ";"}, {"thing x until ", ";"},
        {TWO + "brings r s in ", ";"}, {BET + "r by ", ";"}, {BET + "least 1 by ", ";"}};

    static void promise04_aDayFrom0To7(Due due) {
        for (String[] around : DAYS) {
            due.is(around[0] + "0", Texts.fault(around[0] + "0" + around[1]), -1);
            due.is(around[0] + "7", Texts.fault(around[0] + "7" + around[1]), -1);
        }
    }

    static void promise04_aDayAbove7(Due due) {
        for (String[] around : DAYS) {
            due.is(around[0] + "8", Texts.fault(around[0] + "8" + around[1]), around[0].length());
            due.is(around[0] + "70", Texts.fault(around[0] + "70" + around[1]), around[0].length());
        }
    }

    static void promise04_aDayOfThreeDigits(Due due) {
        for (String[] around : DAYS) {
            due.is(around[0] + "000", Texts.fault(around[0] + "000" + around[1]), -1);
            due.is(around[0] + "007", Texts.fault(around[0] + "007" + around[1]), -1);
            due.is(around[0] + "008", Texts.fault(around[0] + "008" + around[1]), around[0].length());
        }
    }

    static void promise04_aDayOfFourDigits(Due due) {
        for (String[] around : DAYS) {
            due.is(around[0] + "0000", Texts.fault(around[0] + "0000" + around[1]), around[0].length());
            due.is(around[0] + "0007", Texts.fault(around[0] + "0007" + around[1]), around[0].length());
        }
    }

    static void promise04_untilNotBelowFrom(Due due) {
        due.is("as from", Texts.fault("thing a from 5 until 5;"), -1);
        due.is("below from", Texts.fault("thing a from 5 until 4;"), 21);
        due.is("0 and 0", Texts.fault("thing a from 0 until 0;"), -1);
        due.is("7 and 7", Texts.fault("thing a from 7 until 7;"), -1);
        due.is("7 and 6", Texts.fault("thing a from 7 until 6;"), 21);
    }

    static void promise04_aCoinFrom1To999(Due due) {
        String end = " b that " + CLAIM + ";";
        due.is("1 and 1", Texts.fault(TWO + "bet a 1 to 1" + end), -1);
        due.is("999 and 999", Texts.fault(TWO + "bet a 999 to 999" + end), -1);
        due.is("001 and 010", Texts.fault(TWO + "bet a 001 to 010" + end), -1);
    }

    static void promise04_aCoinBelow1OrAbove999(Due due) {
        String end = " b that " + CLAIM + ";";
        String[] coins = {"0", "00", "000", "1000", "0001", "0999"};
        for (String coin : coins) {
            due.is("first " + coin, Texts.fault(TWO + "bet a " + coin + " to 1" + end), 40);
            due.is("second " + coin, Texts.fault(TWO + "bet a 1 to " + coin + end), 45);
        }
    }

    static void promise04_manyFrom0To9(Due due) {
        String[] many = {"0", "9", "00", "09", "009"};
        for (String one : many) {
            due.is(one, Texts.fault(BET + "least " + one + " by 1;"), -1);
        }
    }

    static void promise04_manyAbove9(Due due) {
        String[] many = {"10", "010", "0000", "0009", "99"};
        for (String one : many) {
            due.is(one, Texts.fault(BET + "least " + one + " by 1;"), BET.length() + 6);
        }
    }

    static void promise04_nineOpen(Due due) {
        due.is("not", Texts.fault(BET + "not ".repeat(9) + "r comes;"), -1);
        due.is("(", Texts.fault(BET + "(".repeat(9) + "r comes" + ")".repeat(9) + ";"), -1);
        due.is("both", Texts.fault(BET + "not(".repeat(4) + "not r comes" + ")".repeat(4) + ";"), -1);
    }

    static void promise04_theTenthOpen(Due due) {
        int start = BET.length();
        due.is("not", Texts.fault(BET + "not ".repeat(10) + "r comes;"), start + 36);
        due.is("(", Texts.fault(BET + "(".repeat(10) + "r comes" + ")".repeat(10) + ";"), start + 9);
        due.is("( behind not", Texts.fault(BET + "not ".repeat(9) + "(r comes);"), start + 36);
        due.is("not behind (", Texts.fault(BET + "(".repeat(9) + "not r comes" + ")".repeat(9) + ";"), start + 9);
        due.is("both", Texts.fault(BET + "(not ".repeat(5) + "r comes" + ")".repeat(5) + ";"), start + 21);
    }

    static void promise04_openInOneAnotherAlone(Due due) {
        String nine = "not ".repeat(9) + "r comes";
        due.is("beside one another by and", Texts.fault(BET + nine + " and " + nine + ";"), -1);
        due.is("beside one another by or", Texts.fault(BET + nine + " or " + nine + ";"), -1);
        due.is("closed and opened again", Texts.fault(BET + "(r comes) and ".repeat(12) + "(r comes);"), -1);
        due.is("in each ANY", Texts.fault(BET + nine + " off " + nine + " double " + nine + ";"), -1);
        due.is("eight and two beside one another in it",
            Texts.fault(BET + "(".repeat(8) + "not r comes and (s comes)" + ")".repeat(8) + ";"), -1);
    }

    static void promise04_theTenthOpenInOffAndDouble(Due due) {
        String ten = "not ".repeat(10) + "r comes;";
        due.is("off", Texts.fault(BET + CLAIM + " off " + ten), BET.length() + 12 + 5 + 36);
        due.is("double", Texts.fault(BET + CLAIM + " double " + ten), BET.length() + 12 + 8 + 36);
    }

    static void promise04_theSixthThingsName(Due due) {
        String five = "thing a;thing b;thing c;thing d;thing e;";
        due.is("five", Texts.fault(five), -1);
        due.is("six", Texts.fault(five + "thing f;"), 46);
        due.is("no name", Texts.fault(five + "thing ;"), 46);
        due.is("more must come", Texts.fault(five + "thing"), 45);
        due.is("members may still come", Texts.fault(five + "member f;"), -1);
    }

    static void promise04_theSeventhMembersName(Due due) {
        String six = "member a;member b;member c;member d;member e;member f;";
        due.is("six", Texts.fault(six), -1);
        due.is("seven", Texts.fault(six + "member g;"), 61);
        due.is("more must come", Texts.fault(six + "member "), 61);
        due.is("things may still come", Texts.fault(six + "thing g;"), -1);
    }

    static void promise04_the13thBet(Due due) {
        String bet = "bet a 1 to 1 b that r comes;";
        String twelve = TWO + bet.repeat(12);
        due.is("twelve", Texts.fault(twelve), -1);
        due.is("thirteen", Texts.fault(twelve + bet), twelve.length());
        due.is("the word alone", Texts.fault(twelve + " bet"), twelve.length() + 1);
        due.is("things may still come", Texts.fault(twelve + "thing c;"), -1);
    }

    static void promise04_the41stStatement(Due due) {
        String forty = TWO + "bars r s;".repeat(36);
        due.is("forty", Texts.fault(forty), -1);
        due.is("forty and blanks", Texts.fault(forty + " \n "), -1);
        due.is("one more", Texts.fault(forty + "bars r s;"), forty.length());
        due.is("one more behind blanks", Texts.fault(forty + " \nmember c;"), forty.length() + 2);
        due.is("one more cut off", Texts.fault(forty + "thing"), forty.length());
        due.is("a word of none", Texts.fault(forty + " that"), forty.length() + 1);
    }

    /** Texts in which a ! stands at the place of the FAULT. */
    private static void faults(Due due, String... marked) {
        for (String text : marked) {
            due.is(text, Texts.fault(text.replace("!", "")), text.indexOf('!'));
        }
    }

    static void promise04_aPartOfThingsOrMembersIsMissing(Due due) {
        faults(due, "thing !;", "thing a from !;", "thing a from !until 3;", "thing a until !;",
            "thing a from 1 until !;", "thing a !1;", "thing a !b;", "member !;", "member a !b;",
            "member a !from 1;", "!a;", "!1;", "thing a !thing b;", "member a!");
    }

    static void promise04_aPartOfBarsOrBringsIsMissing(Due due) {
        faults(due, TWO + "bars !;", TWO + "bars r !;", TWO + "bars r s!", TWO + "bars r s !in 1;",
            TWO + "brings !;", TWO + "brings r !;", TWO + "brings r !in 1;", TWO + "brings r s !;",
            TWO + "brings r s !1;", TWO + "brings r s in !;", TWO + "brings r s in 1!", TWO + "brings r s in 1 !2;");
    }

    static void promise04_aPartOfABetIsMissing(Due due) {
        faults(due, TWO + "bet !;", TWO + "bet !1 to 1 b that r comes;", TWO + "bet a !;",
            TWO + "bet a !to 1 b that r comes;", TWO + "bet a 1 !;", TWO + "bet a 1 !1 b that r comes;",
            TWO + "bet a 1 to !;", TWO + "bet a 1 to !b that r comes;", TWO + "bet a 1 to 1 !;",
            TWO + "bet a 1 to 1 !that r comes;", TWO + "bet a 1 to 1 b !;", TWO + "bet a 1 to 1 b !r comes;",
            BET + "!;", BET + "!off r comes;", BET + "!double r comes;", BET + "r comes off !;",
            BET + "r comes off !double s comes;", BET + "r comes off s comes double !;", BET + "r comes double !;");
    }

    static void promise04_aPartOfAnyIsMissing(Due due) {
        faults(due, BET + "r !;", BET + "r !and s comes;", BET + "r by !;", BET + "r by !and s comes;",
            BET + "r by !s;", BET + "r before !;", BET + "r before !7;", BET + "!comes;", BET + "!by 1;",
            BET + "least !;", BET + "least !by 1;", BET + "least 1 !;", BET + "least 1 !1;", BET + "least 1 by !;",
            BET + "least 1 by !s;", BET + "not !;", BET + "not !and s comes;", BET + "(!;", BET + "(!);",
            BET + "(r comes!;", BET + "(r comes !off s comes;", BET + "r comes!);", BET + "r comes and !;",
            BET + "r comes and !or s comes;", BET + "r comes or !;", BET + "r comes or !and s comes;",
            BET + "!or r comes;", BET + "r comes !s comes;", BET + "r comes !(s comes);", BET + "r comes !not s comes;",
            BET + "r comes !least 1 by 1;", BET + "(r comes !(s comes));");
    }

    static void promise04_partsInTheirOrder(Due due) {
        due.is("until, then from", Texts.fault("thing a until 3 from 2;"), 16);
        due.is("from twice", Texts.fault("thing a from 1 from 2;"), 15);
        due.is("double, then off", Texts.fault(BET + "r comes double s comes off s comes;"), BET.length() + 23);
        due.is("off twice", Texts.fault(BET + "r comes off s comes off s comes;"), BET.length() + 20);
        due.is("double twice", Texts.fault(BET + "r comes double s comes double s comes;"), BET.length() + 23);
    }

    static void promise04_partsThatMayBeLeftOut(Due due) {
        due.is("from alone", Texts.fault("thing a from 3;"), -1);
        due.is("until alone", Texts.fault("thing a until 3;"), -1);
        due.is("off alone", Texts.fault(BET + "r comes off s comes;"), -1);
        due.is("double alone", Texts.fault(BET + "r comes double s comes;"), -1);
        due.is("both", Texts.fault(BET + "r comes off s comes double s comes;"), -1);
    }

    // Promise 5: told

    static void promise05_howMany(Due due) {
        BettingBook book = Texts.book(TWO + "bars r s;bet a 1 to 2 b that r comes;");
        due.is("told(0)", book.told(0), 2);
        due.is("told(1)", book.told(1), 2);
        due.is("told(2)", book.told(2), 1);
        due.is("told(3)", book.told(3), 6);
    }

    static void promise05_themAll(Due due) {
        String things = "thing a;thing b;thing c;thing d;thing e;";
        String members = "member u;member v;member w;member x;member y;member z;";
        BettingBook book = Texts.book(things + members + "bet u 1 to 1 v that a comes;".repeat(12)
            + "bars a b;".repeat(17));
        int[] counts = {5, 6, 12, 40};
        for (int what = 0; what < counts.length; what++) {
            due.is("told(" + what + ")", book.told(what), counts[what]);
        }
        due.is("told(108)", book.told(108), 0);
        due.is("told(109)", book.told(109), 7);
        due.is("told(110)", book.told(110), -1);
    }

    static void promise05_numberedFrom0OnAsTold(Due due) {
        BettingBook book = Texts.book("member x;thing a until 1;member y;bet y 1 to 2 x that a comes;thing b until 2;"
            + "member z;bet z 3 to 4 y that b comes;");
        due.is("until of THING 0", book.told(101), 1);
        due.is("until of THING 1", book.told(103), 2);
        due.is("MEMBER of side 0 of WAGER 0", book.wager(0, 0), 1);
        due.is("MEMBER of side 1 of WAGER 0", book.wager(0, 1), 0);
        due.is("MEMBER of side 0 of WAGER 1", book.wager(1, 0), 2);
        due.is("COIN of side 1 of WAGER 1", book.wager(1, 3), 4);
    }

    static void promise05_fromAndUntil(Due due) {
        BettingBook book = Texts.book("thing a from 0 until 0;thing b from 7 until 7;thing c from 3;"
            + "thing d until 4;thing e;");
        int[] days = {0, 0, 7, 7, 3, 7, 0, 4, 0, 7};
        for (int i = 0; i < days.length; i++) {
            due.is("told(" + (100 + i) + ")", book.told(100 + i), days[i]);
        }
    }

    static void promise05_noneSuch(Due due) {
        BettingBook book = Texts.book("thing a;thing b;");
        int[] none = {Integer.MIN_VALUE, -100, -1, 4, 5, 98, 99, 104, 105, 200, Integer.MAX_VALUE};
        for (int what : none) {
            due.is("told(" + what + ")", book.told(what), -1);
        }
    }

    static void promise05_noThings(Due due) {
        BettingBook book = Texts.book("member a;");
        due.is("told(100)", book.told(100), -1);
        due.is("told(101)", book.told(101), -1);
    }
}
