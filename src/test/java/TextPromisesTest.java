/** Promises 1 to 5: a new object, the tape, the BOOK's text and its FAULT. */
final class TextPromisesTest {
    private static final Due DUE = new Due();

    public static void main(String[] arguments) {
        aNewObject();
        feed();
        book();
        fault();
        faultsOfNames();
        faultsOfNumbers();
        faultsOfStatements();
        faultsOfClaims();
        limits();
        told();
        DUE.end();
    }

    private static void aNewObject() {
        BettingBook book = new BettingBook();
        for (int what = 0; what < 4; what++) {
            DUE.is("new told(" + what + ")", book.told(what), 0);
        }
        DUE.is("new told(100)", book.told(100), -1);
        DUE.is("new rows(-1)", book.rows(-1), 1);
        DUE.is("new rows(0)", book.rows(0), 0);
        DUE.is("new rows(1)", book.rows(1), -1);
        DUE.is("new fits(0)", book.fits(0), 2);
        DUE.is("new fits(1)", book.fits(1), -1);
        DUE.is("new fault()", book.fault(), -1);
        int[] counts = {0, 0, 0, 0, 0, 0, 1, 1, 0};
        for (int what = 0; what < counts.length; what++) {
            DUE.is("new count(" + what + ")", book.count(what), counts[what]);
        }
        DUE.is("new settle()", book.settle(), 0);
        DUE.is("new best(0)", book.best(0), -1);
        DUE.is("new has(0)", book.has(0), -1000000);
        DUE.is("new sure(0, 0)", book.sure(0, 0), -1000000);
        DUE.is("new come(0)", book.come(0), -1);
        DUE.is("new day(7)", book.day(7), 1);
    }

    private static void feed() {
        BettingBook book = new BettingBook();
        // "thing a;member b;thi" in numbers of four bytes, the highest first
        DUE.is("feed", book.feed(0x7468696e, 0x6720613b, 0x6d656d62, 0x65722062, 0x3b746869), 20);
        DUE.is("count(3)", book.count(3), 20);
        DUE.is("book(17)", book.book(17), 0);
        DUE.is("things", book.told(0), 1);
        DUE.is("members", book.told(1), 1);
        for (int i = 1; i <= 60; i++) {
            DUE.is("feed " + i, book.feed(0x20202020, 0x20202020, 0x20202020, 0x20202020, 0x20202020), 20 * i);
        }
        DUE.is("feed too much", book.feed(-1, -1, -1, -1, -1), -1);
        DUE.is("count(3) then", book.count(3), 1200);
        DUE.is("book(1200) of blanks", book.book(1200), 0);
        DUE.is("fault() of blanks", book.fault(), -1);
        book.feed(0x20202020, 0xff202020, 0, 0, 0);
        DUE.is("book(5) with a byte 255", book.book(5), -1);
        DUE.is("its fault()", book.fault(), 4);
    }

    private static void book() {
        BettingBook book = new BettingBook();
        DUE.is("book(0)", book.book(0), 0);
        DUE.is("book(1)", book.book(1), -2);
        DUE.is("book(-1)", book.book(-1), -2);
        DUE.is("count(0)", book.count(0), 1);
        Texts.feed(book, "thing a;");
        DUE.is("book(21)", book.book(21), -2);
        DUE.is("book(-1)", book.book(-1), -2);
        DUE.is("the tape then", book.count(3), 20);
        DUE.is("book(8)", book.book(8), 0);
        DUE.is("the tape after the book", book.count(3), 0);
        DUE.is("told(0)", book.told(0), 1);
        DUE.is("book with a fault", Texts.tell(book, "thing a;;"), -1);
        DUE.is("the tape after a fault", book.count(3), 0);
        DUE.is("told(0) as it was", book.told(0), 1);
        DUE.is("count(0) as it was", book.count(0), 2);
        DUE.is("two wagers", Texts.tell(book, "member a;member b;bet a 1 to 1 b that least 0 by 0;"
            + "bet b 1 to 1 a that least 0 by 0;"), 2);
        allIsGone();
    }

    private static void allIsGone() {
        String text = "thing r;member a;member b;bet a 2 to 3 b that r comes;";
        BettingBook book = Texts.book(text);
        book.chance(0, -1, 100);
        book.sell(0, 0, 1, 5);
        book.paid(0, 1, 7);
        book.image();
        book.day(2);
        book.come(0);
        DUE.is("book again", Texts.tell(book, text), 1);
        DUE.is("books taken", book.count(0), 2);
        DUE.is("today", book.count(1), 0);
        DUE.is("came", book.count(2), 0);
        DUE.is("images", book.count(4), 0);
        DUE.is("back(0)", book.back(0), false);
        DUE.is("whole", book.count(7), 0);
        DUE.is("sold", book.count(8), 0);
        DUE.is("holder", book.wager(0, 0), 0);
        DUE.is("has(0)", book.has(0), 0);
        DUE.is("rows left", book.rows(-1), 9);
        DUE.is("image()", book.image(), 0);
    }

    private static void fault() {
        BettingBook book = new BettingBook();
        Texts.tell(book, "thing a;bet");
        DUE.is("fault()", book.fault(), 11);
        book.book(1);
        DUE.is("fault() after -2", book.fault(), 11);
        Texts.tell(book, "thing a;");
        DUE.is("fault() after a book", book.fault(), -1);
        DUE.is("nothing", Texts.fault(""), -1);
        DUE.is("blanks alone", Texts.fault(" \n "), -1);
        DUE.is("more must come", Texts.fault("thing"), 5);
        DUE.is("more must come behind blanks", Texts.fault("thing a  "), 9);
        DUE.is("a part of a word", Texts.fault("thi"), 0);
        DUE.is("a byte that begins none", Texts.fault("thing a?;"), 7);
        DUE.is("a capital letter", Texts.fault(" Thing a;"), 1);
        DUE.is("a tab", Texts.fault("thing\ta;"), 5);
        DUE.is("lines", Texts.fault("\nthing\n\n a\n;\n"), -1);
        DUE.is("no blanks where none need be", Texts.fault("thing a from 1until 2;member b;"), -1);
    }

    private static void faultsOfNames() {
        DUE.is("eight letters", Texts.fault("thing abcdefgh;"), -1);
        DUE.is("nine letters", Texts.fault("thing abcdefghi;"), 6);
        DUE.is("a and z", Texts.fault("thing az;member za;"), -1);
        DUE.is("the byte ahead of a", Texts.fault("thing a`;"), 7);
        DUE.is("the byte behind z", Texts.fault("thing z{;"), 7);
        DUE.is("the byte ahead of 0", Texts.fault("thing a from 1/;"), 14);
        DUE.is("the byte behind 9", Texts.fault("thing a from 1:;"), 14);
        DUE.is("a word", Texts.fault("thing least;"), 6);
        DUE.is("a word's part", Texts.fault("thing leas;"), -1);
        DUE.is("a longer word", Texts.fault("thing leasts;"), -1);
        DUE.is("a number", Texts.fault("thing 7;"), 6);
        DUE.is("a name and digits", Texts.fault("thing a7;"), 7);
        DUE.is("told by thing", Texts.fault("thing a;member a;"), 15);
        DUE.is("told by member", Texts.fault("member a;thing a;"), 15);
        DUE.is("told twice", Texts.fault("member a;member a;"), 16);
        DUE.is("names alike in eight letters", Texts.fault("thing abcdefgh;thing abcdefgg;"), -1);
        String[] words = {"thing", "from", "until", "member", "bars", "brings", "in", "bet", "to", "that", "off",
            "double", "or", "and", "not", "comes", "by", "before", "least"};
        for (String word : words) {
            DUE.is("member " + word, Texts.fault("member " + word + ";"), 7);
        }
    }

    private static void faultsOfNumbers() {
        DUE.is("from 7", Texts.fault("thing a from 7;"), -1);
        DUE.is("from 8", Texts.fault("thing a from 8;"), 13);
        DUE.is("from 007", Texts.fault("thing a from 007;"), -1);
        DUE.is("from 0007", Texts.fault("thing a from 0007;"), 13);
        DUE.is("until 8", Texts.fault("thing a until 8;"), 14);
        DUE.is("until as from", Texts.fault("thing a from 5 until 5;"), -1);
        DUE.is("until below from", Texts.fault("thing a from 5 until 4;"), 21);
        DUE.is("until, then from", Texts.fault("thing a until 3 from 2;"), 16);
        String two = "member a;member b;";
        DUE.is("coin 0", Texts.fault(two + "bet a 0 to 1 b that least 0 by 0;"), 24);
        DUE.is("coin 000", Texts.fault(two + "bet a 000 to 1 b that least 0 by 0;"), 24);
        DUE.is("coin 999", Texts.fault(two + "bet a 999 to 999 b that least 0 by 0;"), -1);
        DUE.is("coin 1000", Texts.fault(two + "bet a 1000 to 1 b that least 0 by 0;"), 24);
        DUE.is("the other coin 0", Texts.fault(two + "bet a 1 to 0 b that least 0 by 0;"), 29);
        DUE.is("many 9", Texts.fault(two + "bet a 1 to 1 b that least 9 by 7;"), -1);
        DUE.is("many 10", Texts.fault(two + "bet a 1 to 1 b that least 10 by 7;"), 44);
        DUE.is("by 8", Texts.fault(two + "bet a 1 to 1 b that least 9 by 8;"), 49);
        DUE.is("a day by 8", Texts.fault(two + "thing r;bet a 1 to 1 b that r by 8;"), 51);
        DUE.is("a huge number", Texts.fault("thing a from 99999999999999999999999999;"), 13);
        DUE.is("in 8", Texts.fault("thing a;thing b;brings a b in 8;"), 30);
        DUE.is("in 7", Texts.fault("thing a;thing b;brings a b in 7;"), -1);
    }

    private static void faultsOfStatements() {
        DUE.is("no statement", Texts.fault(";"), 0);
        DUE.is("no sign behind it", Texts.fault("thing a thing b;"), 8);
        DUE.is("a name alone", Texts.fault("thing a;a;"), 8);
        DUE.is("bars", Texts.fault("thing a;thing b;bars a b;"), -1);
        DUE.is("bars itself", Texts.fault("thing a;thing b;bars a a;"), 23);
        DUE.is("bars one not told", Texts.fault("thing a;thing b;bars a c;"), 23);
        DUE.is("bars a member", Texts.fault("thing a;member b;bars a b;"), 24);
        DUE.is("bars without things", Texts.fault("bars a b;"), 5);
        DUE.is("bars in", Texts.fault("thing a;thing b;bars a b in 2;"), 25);
        DUE.is("brings itself", Texts.fault("thing a;thing b;brings b b in 1;"), 25);
        DUE.is("brings without in", Texts.fault("thing a;thing b;brings a b;"), 26);
        String two = "member a;member b;thing r;";
        DUE.is("bet of a thing", Texts.fault(two + "bet r 1 to 1 b that r comes;"), 30);
        DUE.is("bet with oneself", Texts.fault(two + "bet a 1 to 1 a that r comes;"), 39);
        DUE.is("bet without to", Texts.fault(two + "bet a 1 1 b that r comes;"), 34);
        DUE.is("bet without that", Texts.fault(two + "bet a 1 to 1 b r comes;"), 41);
        DUE.is("off and double", Texts.fault(two + "bet a 1 to 1 b that r comes off r by 1 double r by 2;"), -1);
        DUE.is("double alone", Texts.fault(two + "bet a 1 to 1 b that r comes double r by 2;"), -1);
        DUE.is("double, then off", Texts.fault(two + "bet a 1 to 1 b that r comes double r by 2 off r by 1;"), 68);
        DUE.is("off twice", Texts.fault(two + "bet a 1 to 1 b that r comes off r by 2 off r by 1;"), 65);
        DUE.is("off nothing", Texts.fault(two + "bet a 1 to 1 b that r comes off ;"), 58);
        DUE.is("double nothing", Texts.fault(two + "bet a 1 to 1 b that r comes double"), 60);
        DUE.is("that nothing", Texts.fault(two + "bet a 1 to 1 b that ;"), 46);
    }

    private static void faultsOfClaims() {
        String bet = "thing r;thing s;member a;member b;bet a 1 to 1 b that ";
        int start = bet.length();
        DUE.is("a thing alone", Texts.fault(bet + "r;"), start + 1);
        DUE.is("a member", Texts.fault(bet + "a comes;"), start);
        DUE.is("before itself", Texts.fault(bet + "r before r;"), start + 9);
        DUE.is("before a member", Texts.fault(bet + "r before a;"), start + 9);
        DUE.is("before another", Texts.fault(bet + "r before s;"), -1);
        DUE.is("least without by", Texts.fault(bet + "least 1 r;"), start + 8);
        DUE.is("or at the end", Texts.fault(bet + "r comes or;"), start + 10);
        DUE.is("and at the end", Texts.fault(bet + "r comes and"), start + 11);
        DUE.is("never closed", Texts.fault(bet + "(r comes;"), start + 8);
        DUE.is("closed too often", Texts.fault(bet + "(r comes));"), start + 9);
        DUE.is("nothing in it", Texts.fault(bet + "();"), start + 1);
        DUE.is("not and not", Texts.fault(bet + "not not r comes;"), -1);
        DUE.is("not or", Texts.fault(bet + "not or;"), start + 4);
        DUE.is("nine not", Texts.fault(bet + "not ".repeat(9) + "r comes;"), -1);
        DUE.is("ten not", Texts.fault(bet + "not ".repeat(10) + "r comes;"), start + 36);
        DUE.is("nine (", Texts.fault(bet + "(".repeat(9) + "r comes" + ")".repeat(9) + ";"), -1);
        DUE.is("ten (", Texts.fault(bet + "(".repeat(10) + "r comes" + ")".repeat(10) + ";"), start + 9);
        DUE.is("five of each", Texts.fault(bet + "not(".repeat(5) + "r comes;"), start + 19);
        DUE.is("opens that are closed",
            Texts.fault(bet + "(not r comes) and (not r comes) or not r comes and not s comes ".repeat(4)
                .replace("comes (", "comes or (") + ";"), -1);
        DUE.is("nine not beside nine not",
            Texts.fault(bet + "not ".repeat(9) + "r comes and " + "not ".repeat(9) + "s comes;"), -1);
        String nine = "not ".repeat(9) + "r comes";
        DUE.is("nine in each claim", Texts.fault(bet + nine + " off " + nine + " double " + nine + ";"), -1);
        String least = "least 0 by 0";
        DUE.is("ten in off", Texts.fault(bet + least + " off not " + nine + ";"), start + 12 + 5 + 36);
        DUE.is("ten in double", Texts.fault(bet + least + " double not " + nine + ";"), start + 12 + 8 + 36);
        DUE.is("ten not behind an or",
            Texts.fault(bet + "(r comes or " + "not ".repeat(9) + "s comes);"), start + 12 + 32);
    }

    private static void limits() {
        DUE.is("five things", Texts.fault("thing a;thing b;thing c;thing d;thing e;"), -1);
        DUE.is("the sixth thing's name", Texts.fault("thing a;thing b;thing c;thing d;thing e;thing f;"), 46);
        DUE.is("the sixth thing, cut off", Texts.fault("thing a;thing b;thing c;thing d;thing e;thing"), 45);
        String members = "member a;member b;member c;member d;member e;member f;";
        DUE.is("six members", Texts.fault(members), -1);
        DUE.is("the seventh member's name", Texts.fault(members + "member g;"), 61);
        String bet = "bet a 1 to 1 b that least 0 by 0;";
        DUE.is("twelve bets", Texts.fault(members + bet.repeat(12)), -1);
        DUE.is("the 13th bet", Texts.fault(members + bet.repeat(13)), members.length() + 12 * bet.length());
        String things = "thing a;thing b;";
        String bars = "bars a b;";
        DUE.is("40 statements", Texts.fault(things + bars.repeat(38)), -1);
        DUE.is("the 41st statement", Texts.fault(things + bars.repeat(39)), 16 + 38 * 9);
        DUE.is("the 41st behind a blank", Texts.fault(things + bars.repeat(38) + "  thing c;"), 16 + 38 * 9 + 2);
        DUE.is("40 and a blank", Texts.fault(things + bars.repeat(38) + " "), -1);
        BettingBook book = Texts.book(things + bars.repeat(38));
        DUE.is("told(3)", book.told(3), 40);
    }

    private static void told() {
        BettingBook book = Texts.book("thing a from 3;thing b until 4;thing c from 2 until 2;member x;thing d;"
            + "bars a b;");
        DUE.is("things", book.told(0), 4);
        DUE.is("members", book.told(1), 1);
        DUE.is("wagers", book.told(2), 0);
        DUE.is("statements", book.told(3), 6);
        int[] spans = {3, 7, 0, 4, 2, 2, 0, 7};
        for (int i = 0; i < spans.length; i++) {
            DUE.is("told(" + (100 + i) + ")", book.told(100 + i), spans[i]);
        }
        int[] none = {-1, 4, 5, 98, 99, 108, 109, Integer.MAX_VALUE, Integer.MIN_VALUE};
        for (int what : none) {
            DUE.is("told(" + what + ")", book.told(what), -1);
        }
    }
}
