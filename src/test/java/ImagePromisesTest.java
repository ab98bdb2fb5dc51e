/** Promises 30 to 32: images, and what is counted. */
final class ImagePromisesTest {
    private static final Due DUE = new Due();
    private static final String TEXT = "thing r;thing s;member a;member b;member c;bet a 2 to 3 b that r comes;"
        + "bet a 5 to 5 b that s comes;";

    public static void main(String[] arguments) {
        image();
        back();
        backOftener();
        count();
        wildNumbers();
        DUE.end();
    }

    private static void image() {
        BettingBook book = new BettingBook();
        DUE.is("back(0) at first", book.back(0), false);
        for (int i = 0; i < 4; i++) {
            DUE.is("image " + i, book.image(), i);
            DUE.is("count(4)", book.count(4), i + 1);
        }
        DUE.is("the fifth", book.image(), -1);
        DUE.is("count(4)", book.count(4), 4);
        DUE.is("back(3)", book.back(3), true);
        DUE.is("back(4)", book.back(4), false);
        DUE.is("back(-1)", book.back(-1), false);
        DUE.is("images stay", book.count(4), 4);
        Texts.tell(book, "thing ;");
        DUE.is("images stay with a fault", book.count(4), 4);
        Texts.tell(book, TEXT);
        DUE.is("images are gone", book.count(4), 0);
    }

    private static void back() {
        BettingBook book = Texts.book(TEXT);
        book.day(1);
        book.come(0);
        book.paid(0, 1, 4);
        book.sell(1, 0, 2, 6);
        DUE.is("image", book.image(), 0);
        book.chance(0, 1, 100);
        book.chance(1, -1, 100);
        book.sell(1, 1, 0, 9);
        book.paid(1, 2, 8);
        book.day(3);
        book.come(1);
        DUE.is("sure then", book.count(5), 2);
        DUE.is("one row", book.rows(-1), 1);
        DUE.is("back", book.back(0), true);
        DUE.is("today", book.count(1), 1);
        DUE.is("came", book.count(2), 1);
        DUE.is("sure", book.count(5), 1);
        DUE.is("sold", book.count(8), 1);
        DUE.is("rows", book.rows(-1), 8);
        DUE.is("side 0 of wager 1", book.wager(1, 0), 2);
        DUE.is("side 1 of wager 1", book.wager(1, 1), 1);
        DUE.is("has(0)", book.has(0), 4 + 6 + 3);
        DUE.is("has(1)", book.has(1), -4 - 3);
        DUE.is("has(2)", book.has(2), -6);
        DUE.is("chances aren't in it", book.count(7), 1);
        DUE.is("come again", book.come(1), 1);
        DUE.is("the row", book.rows(0), 2 + 9 * 2);
    }

    private static void backOftener() {
        BettingBook book = Texts.book(TEXT);
        book.image();
        book.day(2);
        book.image();
        book.day(5);
        book.come(1);
        DUE.is("back(1)", book.back(1), true);
        DUE.is("day 2", book.count(1), 2);
        DUE.is("back(0)", book.back(0), true);
        DUE.is("day 0", book.count(1), 0);
        DUE.is("all rows", book.rows(-1), 81);
        DUE.is("forward to 1", book.back(1), true);
        DUE.is("day 2 again", book.count(1), 2);
        book.come(0);
        DUE.is("what comes then isn't in the image", book.back(1), true);
        DUE.is("came", book.count(2), 0);
        DUE.is("rows on day 2", book.rows(-1), 49);
    }

    private static void count() {
        BettingBook book = Texts.book(TEXT);
        Texts.feed(book, "some text that is fed twice");
        book.day(4);
        book.come(1);
        book.image();
        book.sell(0, 0, 2, 1);
        book.sell(0, 0, 0, 1);
        book.sell(0, 1, 0, 1);
        int[] due = {1, 4, 2, 40, 1, 1, 81, 0, 3};
        for (int what = 0; what < due.length; what++) {
            DUE.is("count(" + what + ")", book.count(what), due[what]);
        }
        DUE.is("count(9)", book.count(9), -1);
        DUE.is("count(-1)", book.count(-1), -1);
        DUE.is("count(100)", book.count(100), -1);
        Texts.tell(book, "thing ;");
        DUE.is("a fault takes no book", book.count(0), 1);
        DUE.is("what was told stays", book.count(1), 4);
        Texts.tell(book, "thing p;");
        DUE.is("books taken", book.count(0), 2);
        DUE.is("possible rows", book.count(6), 9);
    }

    /** No call throws, and none such is none such, for the greatest and the least numbers. */
    private static void wildNumbers() {
        int[] wild = {Integer.MIN_VALUE, Integer.MIN_VALUE + 1, -1000000, -3, 13, 100000, 1 << 30,
            Integer.MAX_VALUE - 1, Integer.MAX_VALUE};
        BettingBook told = Texts.book(TEXT);
        for (BettingBook book : new BettingBook[] {told, new BettingBook()}) {
            for (int n : wild) {
                wildCalls(book, n);
                for (int m : wild) {
                    DUE.is("sell", book.sell(0, n, m, 0) || book.sell(n, 0, 0, m) || book.sell(0, 0, n, m), false);
                    DUE.is("paid", book.paid(n, m, 5) || book.paid(0, n, m), false);
                    DUE.is("chance", book.chance(n, m, 5) || book.chance(0, n, m) || book.chance(n, 0, m), false);
                    DUE.is("when", book.when(n, m), -1);
                    DUE.is("same", book.same(n, m), -2);
                    DUE.is("pays", book.pays(n, m), -1000000);
                    DUE.is("end", book.end(n, m), -1000000);
                    DUE.is("win", book.win(n, m), -1);
                }
            }
            DUE.is("nothing came of it", book.count(1) + book.count(2) + book.count(4) + book.count(8), 0);
        }
    }

    private static void wildCalls(BettingBook book, int n) {
        DUE.is("book", book.book(n), -2);
        DUE.is("told", book.told(n), -1);
        DUE.is("wager", book.wager(n, 0), -1);
        DUE.is("wager", book.wager(0, n), -1);
        DUE.is("day", book.day(n), -1);
        DUE.is("come", book.come(n), -1);
        DUE.is("rows", book.rows(n == 13 ? 100 : n), -1);
        DUE.is("fits", book.fits(n == 13 ? 100 : n), -1);
        DUE.is("sure", book.sure(n, 0), -1000000);
        DUE.is("sure", book.sure(0, n), -1000000);
        DUE.is("split", book.split(n, 0), -1);
        DUE.is("split", book.split(0, n), -1);
        DUE.is("latest", book.latest(n), -1);
        DUE.is("hang", book.hang(n), -1);
        DUE.is("has", book.has(n), -1000000);
        DUE.is("may", book.may(n, 0), -1000000);
        DUE.is("may", book.may(0, n), -1000000);
        DUE.is("best", book.best(n), -1);
        DUE.is("win", book.win(n == 13 ? 16 : n, 0), -1);
        DUE.is("win", book.win(1, n), -1);
        DUE.is("worth", book.worth(n, 0), -1000000000000000L);
        DUE.is("worth", book.worth(0, n), -1000000000000000L);
        DUE.is("holds", book.holds(n, 1), -1000000000000000L);
        DUE.is("holds", book.holds(0, n), -1000000000000000L);
        DUE.is("luck", book.luck(n, 0), -1);
        DUE.is("luck", book.luck(0, n), -1);
        DUE.is("back", book.back(n), false);
        DUE.is("count", book.count(n), -1);
    }
}
