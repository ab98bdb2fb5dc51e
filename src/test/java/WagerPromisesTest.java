/** Promises 6 to 20: what changes by days, ROWS, and what the WAGERS come to in them. */
final class WagerPromisesTest {
    private static final Due DUE = new Due();
    private static final int NO_COIN = -1000000;

    /** Never -2, day 0 off, day 1 double 6, days 2 and 3 won 3, later -2. */
    private static final String ONE =
        "thing r;member a;member b;bet a 2 to 3 b that r by 3 off r by 0 double r by 1;";
    private static final String TWO_THINGS = "thing a;thing b;member x;member y;";

    public static void main(String[] arguments) {
        wager();
        day();
        come();
        chance();
        sell();
        paid();
        rows();
        fits();
        barsAndBrings();
        pays();
        paysOfClaims();
        sure();
        split();
        when();
        whenAmongPossibleRows();
        latest();
        hang();
        same();
        DUE.end();
    }

    private static void wager() {
        BettingBook book = Texts.book("member a;member b;member c;thing r;bet c 12 to 999 a that r comes;"
            + "bet a 1 to 2 b that r comes off r by 1;bet b 1 to 2 c that r comes double r by 1;");
        int[][] due = {{2, 0, 12, 999, 0, 0}, {0, 1, 1, 2, 1, 0}, {1, 2, 1, 2, 0, 1}};
        for (int w = 0; w < 3; w++) {
            for (int what = 0; what < 6; what++) {
                DUE.is("wager(" + w + ", " + what + ")", book.wager(w, what), due[w][what]);
            }
        }
        DUE.is("wager(0, 6)", book.wager(0, 6), -1);
        DUE.is("wager(0, -1)", book.wager(0, -1), -1);
        DUE.is("wager(3, 0)", book.wager(3, 0), -1);
        DUE.is("wager(-1, 0)", book.wager(-1, 0), -1);
        book.sell(0, 1, 1, 0);
        DUE.is("side 0 stays", book.wager(0, 0), 2);
        DUE.is("side 1 is sold", book.wager(0, 1), 1);
        DUE.is("another wager's side 1", book.wager(1, 1), 1);
    }

    private static void day() {
        BettingBook book = Texts.book(ONE);
        DUE.is("day(0)", book.day(0), -1);
        DUE.is("day(-1)", book.day(-1), -1);
        DUE.is("day(8)", book.day(8), -1);
        DUE.is("today", book.count(1), 0);
        DUE.is("day(1)", book.day(1), 8);
        DUE.is("day(1) again", book.day(1), -1);
        DUE.is("day(5)", book.day(5), 4);
        DUE.is("day(4)", book.day(4), -1);
        DUE.is("today", book.count(1), 5);
        DUE.is("day(7)", book.day(7), 2);
        DUE.is("rows", book.rows(-1), 2);
        // What a comes on brings b within a day; when that is over, no row is left.
        BettingBook brought = Texts.book("thing a;thing b from 2 until 3;brings a b in 1;");
        DUE.is("day(2)", brought.day(2), 16);
        DUE.is("come(0)", brought.come(0), 2);
        DUE.is("day(4)", brought.day(4), -1);
        DUE.is("today", brought.count(1), 2);
        DUE.is("rows as they were", brought.rows(-1), 2);
        DUE.is("day(3)", brought.day(3), 1);
        DUE.is("the row", brought.rows(0), 3 + 9 * 4);
    }

    private static void come() {
        BettingBook book = Texts.book("thing a;thing b from 1;thing c until 2;bars a b;");
        DUE.is("come(3)", book.come(3), -1);
        DUE.is("come(-1)", book.come(-1), -1);
        DUE.is("come(1) ahead of its time", book.come(1), -1);
        DUE.is("came", book.count(2), 0);
        DUE.is("come(0)", book.come(0), 4);
        DUE.is("come(0) again", book.come(0), -1);
        DUE.is("came", book.count(2), 1);
        DUE.is("day(1)", book.day(1), 3);
        DUE.is("come(1) barred", book.come(1), -1);
        DUE.is("rows", book.rows(-1), 3);
        DUE.is("come(2)", book.come(2), 1);
        DUE.is("came", book.count(2), 5);
        DUE.is("the row", book.rows(0), 1 + 81 * 2);
        DUE.is("day(3)", book.day(3), 1);
        BettingBook late = Texts.book("thing c until 2;");
        DUE.is("day(3)", late.day(3), 1);
        DUE.is("come(0) too late", late.come(0), -1);
        BettingBook waiting = Texts.book("thing a;thing b;brings a b in 0;");
        DUE.is("come(0), which brings b today", waiting.come(0), 1);
        DUE.is("b hasn't come yet", waiting.count(2), 1);
        DUE.is("come(1)", waiting.come(1), 1);
    }

    private static void chance() {
        BettingBook book = Texts.book("thing a;thing b from 3;");
        DUE.is("chance(0, -1, 100)", book.chance(0, -1, 100), true);
        DUE.is("not yet whole", book.count(7), 0);
        DUE.is("chance(1, 7, 60)", book.chance(1, 7, 60), true);
        DUE.is("chance(1, 0, 40)", book.chance(1, 0, 40), true);
        DUE.is("whole", book.count(7), 1);
        DUE.is("chance(0, -1, 101)", book.chance(0, -1, 101), false);
        DUE.is("chance(0, -1, -1)", book.chance(0, -1, -1), false);
        DUE.is("chance(0, -2, 1)", book.chance(0, -2, 1), false);
        DUE.is("chance(0, 8, 1)", book.chance(0, 8, 1), false);
        DUE.is("chance(2, 0, 1)", book.chance(2, 0, 1), false);
        DUE.is("chance(-1, 0, 1)", book.chance(-1, 0, 1), false);
        DUE.is("whole still", book.count(7), 1);
        DUE.is("chance(0, 0, 0)", book.chance(0, 0, 0), true);
        DUE.is("whole with a 0", book.count(7), 1);
        DUE.is("chance(0, 0, 1)", book.chance(0, 0, 1), true);
        DUE.is("more than whole", book.count(7), 0);
        DUE.is("chance(0, -1, 99)", book.chance(0, -1, 99), true);
        DUE.is("whole again", book.count(7), 1);
    }

    private static void sell() {
        BettingBook book = Texts.book("thing r;member a;member b;member c;bet a 2 to 3 b that r comes;"
            + "bet a 2 to 3 b that least 0 by 0;");
        DUE.is("sell to the holder", book.sell(0, 0, 0, 5), false);
        DUE.is("sell a sure one", book.sell(1, 0, 2, 5), false);
        DUE.is("side 2", book.sell(0, 2, 2, 5), false);
        DUE.is("side -1", book.sell(0, -1, 2, 5), false);
        DUE.is("wager 2", book.sell(2, 0, 2, 5), false);
        DUE.is("wager -1", book.sell(-1, 0, 2, 5), false);
        DUE.is("member 3", book.sell(0, 0, 3, 5), false);
        DUE.is("member -1", book.sell(0, 0, -1, 5), false);
        DUE.is("coin -1", book.sell(0, 0, 2, -1), false);
        DUE.is("coin 10000", book.sell(0, 0, 2, 10000), false);
        DUE.is("nothing sold", book.count(8), 0);
        DUE.is("sell for 9999", book.sell(0, 0, 2, 9999), true);
        DUE.is("the seller", book.has(0), 3 + 9999);
        DUE.is("the buyer", book.has(2), -9999);
        DUE.is("the other", book.has(1), -3);
        DUE.is("sell back for 0", book.sell(0, 0, 0, 0), true);
        DUE.is("the seller then", book.has(2), -9999);
        DUE.is("sold twice", book.count(8), 2);
        DUE.is("both sides to one", book.sell(0, 1, 0, 7), true);
        DUE.is("who sold", book.has(1), -3 + 7);
        DUE.is("who bought", book.has(0), 3 + 9999 - 7);
        book.come(0);
        DUE.is("sell what's sure now", book.sell(0, 1, 2, 1), false);
        DUE.is("both sides pay nothing", book.has(0), 3 + 9999 - 7);
    }

    private static void paid() {
        BettingBook book = Texts.book("member a;member b;");
        DUE.is("paid 0", book.paid(0, 1, 0), false);
        DUE.is("paid 10000", book.paid(0, 1, 10000), false);
        DUE.is("paid to oneself", book.paid(1, 1, 5), false);
        DUE.is("paid by none", book.paid(2, 1, 5), false);
        DUE.is("paid to none", book.paid(0, -1, 5), false);
        DUE.is("nothing was paid", book.has(0), 0);
        DUE.is("paid 1", book.paid(0, 1, 1), true);
        DUE.is("paid 9999", book.paid(0, 1, 9999), true);
        DUE.is("has to get it", book.has(0), 10000);
        DUE.is("has to give it", book.has(1), -10000);
    }

    private static void rows() {
        BettingBook book = Texts.book("thing a from 6;thing b until 1;");
        DUE.is("rows(-1)", book.rows(-1), 9);
        int[] codes = {0, 7, 8, 9, 16, 17, 18, 25, 26};
        for (int k = 0; k < codes.length; k++) {
            DUE.is("rows(" + k + ")", book.rows(k), codes[k]);
        }
        DUE.is("rows(9)", book.rows(9), -1);
        DUE.is("rows(-2)", book.rows(-2), -1);
        book.day(1);
        DUE.is("rows(-1) on day 1", book.rows(-1), 6);
        DUE.is("rows(3) on day 1", book.rows(3), 18);
        book.come(1);
        DUE.is("rows(0), b came", book.rows(0), 18);
        DUE.is("rows(3), b came", book.rows(3), -1);
    }

    private static void fits() {
        BettingBook book = Texts.book("thing a from 2 until 6;thing b;bars a b;");
        DUE.is("fits(0)", book.fits(0), 2);
        DUE.is("fits(2), ahead of from", book.fits(2), -1);
        DUE.is("fits(3)", book.fits(3), 2);
        DUE.is("fits(7)", book.fits(7), 2);
        DUE.is("fits(8), behind until", book.fits(8), -1);
        DUE.is("fits(3 + 9 * 3)", book.fits(30), 2);
        DUE.is("fits(3 + 9 * 4), barred", book.fits(39), 0);
        DUE.is("fits(-1)", book.fits(-1), -1);
        DUE.is("fits(80)", book.fits(80), -1);
        DUE.is("fits(79)", book.fits(79), 0);
        DUE.is("fits(81)", book.fits(81), -1);
        book.day(3);
        DUE.is("fits(3) on day 3", book.fits(3), 1);
        DUE.is("fits(4) on day 3", book.fits(4), 2);
        book.come(0);
        DUE.is("fits(4), it came", book.fits(4), 2);
        DUE.is("fits(5), it came", book.fits(5), 1);
        DUE.is("fits(0), it came", book.fits(0), 1);
        Texts.tell(book, "thing a;");
        DUE.is("fits(9) in a smaller book", book.fits(9), -1);
    }

    private static void barsAndBrings() {
        DUE.is("all", Texts.book("thing a;thing b;").count(6), 81);
        BettingBook bars = Texts.book("thing a;thing b;bars a b;");
        DUE.is("bars", bars.count(6), 53);
        DUE.is("first alone", bars.fits(3), 2);
        DUE.is("second alone", bars.fits(27), 2);
        DUE.is("second on the same day", bars.fits(3 + 27), 2);
        DUE.is("second ahead", bars.fits(3 + 18), 2);
        DUE.is("second behind", bars.fits(3 + 36), 0);
        BettingBook brings = Texts.book("thing a;thing b;brings a b in 2;");
        DUE.is("brings", brings.count(6), 60);
        DUE.is("first alone on day 5", brings.fits(6), 0);
        DUE.is("first alone on day 6", brings.fits(7), 2);
        DUE.is("second alone", brings.fits(27), 2);
        DUE.is("second two days behind", brings.fits(3 + 45), 2);
        DUE.is("second three days behind", brings.fits(3 + 54), 0);
        DUE.is("second ahead", brings.fits(3 + 9), 2);
        DUE.is("brings in 0", Texts.book("thing a;thing b;brings a b in 0;").count(6), 9 + 44 - 8);
        DUE.is("brings in 7", Texts.book("thing a;thing b;brings a b in 7;").count(6), 9 + 8 + 7 * 9);
        DUE.is("the second's until", Texts.book("thing a;thing b until 0;brings a b in 2;").count(6), 2 + 6 + 4);
        DUE.is("both ways", Texts.book("thing a;thing b;brings a b in 0;brings b a in 0;").count(6), 9);
    }

    private static void pays() {
        BettingBook book = Texts.book(ONE);
        int[] due = {-2, 0, 6, 3, 3, -2, -2, -2, -2};
        for (int code = 0; code < 9; code++) {
            DUE.is("pays(0, " + code + ")", book.pays(0, code), due[code]);
        }
        DUE.is("pays(0, 9)", book.pays(0, 9), NO_COIN);
        DUE.is("pays(0, -1)", book.pays(0, -1), NO_COIN);
        DUE.is("pays(1, 0)", book.pays(1, 0), NO_COIN);
        DUE.is("pays(-1, 0)", book.pays(-1, 0), NO_COIN);
        BettingBook barred = Texts.book(TWO_THINGS + "thing c from 3;bars a b;"
            + "bet x 999 to 1 y that b by 3 double a by 0;");
        DUE.is("pays in a row not possible", barred.pays(0, 1 + 9 * 5), -1998);
        DUE.is("pays in no row", barred.pays(0, 81), NO_COIN);
    }

    /** What a claim about a and b comes to: 1 if it holds, else -1. */
    private static int holdsIn(String claim, int a, int b) {
        BettingBook book = Texts.book(TWO_THINGS + "bet x 1 to 1 y that " + claim + ";");
        return book.pays(0, a + 1 + 9 * (b + 1));
    }

    private static void paysOfClaims() {
        Object[][] due = {
            {"a comes", -1, 3, -1}, {"a comes", 7, 3, 1}, {"a comes", 0, -1, 1},
            {"a by 3", 3, -1, 1}, {"a by 3", 4, -1, -1}, {"a by 3", -1, 3, -1}, {"a by 0", 0, 0, 1},
            {"a before b", 2, 3, 1}, {"a before b", 3, 3, -1}, {"a before b", 4, 3, -1}, {"a before b", 7, -1, 1},
            {"a before b", -1, 3, -1}, {"a before b", -1, -1, -1},
            {"least 2 by 4", 4, 0, 1}, {"least 2 by 4", 5, 0, -1}, {"least 2 by 4", 1, -1, -1},
            {"least 1 by 4", 5, 4, 1}, {"least 0 by 0", -1, -1, 1}, {"least 3 by 7", 0, 0, -1},
            {"not a comes", -1, -1, 1}, {"not a comes", 0, -1, -1}, {"not a before b", 3, 3, 1},
            {"not not a comes", 0, -1, 1}, {"not (a comes)", 0, -1, -1},
            {"a comes and b comes", 1, -1, -1}, {"a comes and b comes", 1, 1, 1},
            {"a comes or b comes", 1, -1, 1}, {"a comes or b comes", -1, -1, -1},
            {"not a comes and b comes", -1, 2, 1}, {"not a comes and b comes", -1, -1, -1},
            {"not (a comes and b comes)", -1, -1, 1}, {"not a comes or b comes", 1, 1, 1},
            {"a by 0 or b by 0 and a by 1", 0, -1, 1}, {"a by 0 or b by 0 and a by 1", 2, 0, -1},
            {"a by 0 and b by 0 or a by 1", 1, -1, 1}, {"(a by 0 or b by 0) and a by 1", 0, -1, 1},
            {"(a by 0 or b by 0) and a by 1", 2, 0, -1}, {"a by 0 or a by 1 or a by 2", 2, 5, 1},
            {"a by 5 and a by 4 and a by 3", 4, 5, -1}, {"a by 5 and a by 4 and a by 3", 3, 5, 1},
            {"not(not(not(a comes)or b comes)and not b comes)", 3, -1, -1},
        };
        for (Object[] row : due) {
            int got = holdsIn((String) row[0], (int) row[1], (int) row[2]);
            DUE.is(row[0] + " with a on " + row[1] + ", b on " + row[2], got, (int) row[3]);
        }
    }

    private static void sure() {
        BettingBook book = Texts.book(ONE + "bet b 4 to 5 a that least 1 by 7;bet b 4 to 5 a that least 2 by 7;");
        DUE.is("open", book.sure(0, 0), 0);
        DUE.is("pays nothing yet", book.sure(0, 1), 0);
        DUE.is("sure from the beginning", book.sure(2, 0), 1);
        DUE.is("it pays", book.sure(2, 1), -4);
        DUE.is("sure(0, 2)", book.sure(0, 2), NO_COIN);
        DUE.is("sure(0, -1)", book.sure(0, -1), NO_COIN);
        DUE.is("sure(3, 0)", book.sure(3, 0), NO_COIN);
        DUE.is("sure(-1, 1)", book.sure(-1, 1), NO_COIN);
        DUE.is("how many", book.count(5), 1);
        book.day(4);
        DUE.is("sure by time", book.sure(0, 0), 1);
        DUE.is("it pays then", book.sure(0, 1), -2);
        DUE.is("still open", book.sure(1, 0), 0);
        book.come(0);
        DUE.is("sure by what came", book.sure(1, 1), 5);
        DUE.is("how many then", book.count(5), 3);
        BettingBook off = Texts.book(ONE);
        off.come(0);
        DUE.is("sure to be off", off.sure(0, 0), 1);
        DUE.is("off pays", off.sure(0, 1), 0);
    }

    private static void split() {
        BettingBook book = Texts.book(ONE + "bet a 2 to 3 b that r by 3 double not r by 5;");
        int[] first = {3, 5, 1, 1};
        int[] second = {4, 5, 0, 3};
        for (int what = 0; what < 4; what++) {
            DUE.is("split(0, " + what + ")", book.split(0, what), first[what]);
            DUE.is("split(1, " + what + ")", book.split(1, what), second[what]);
        }
        DUE.is("split(0, 4)", book.split(0, 4), -1);
        DUE.is("split(0, -1)", book.split(0, -1), -1);
        DUE.is("split(2, 0)", book.split(2, 0), -1);
        DUE.is("split(-1, 0)", book.split(-1, 0), -1);
        book.day(2);
        DUE.is("side 0 on day 2", book.split(0, 0), 2);
        DUE.is("double on day 2", book.split(0, 3), 0);
        DUE.is("off on day 2", book.split(0, 2), 0);
    }

    private static void when() {
        BettingBook book = Texts.book(ONE);
        int[] due = {3, 0, 1, 2, 3, 3, 3, 3, 3};
        for (int code = 0; code < 9; code++) {
            DUE.is("when(0, " + code + ")", book.when(0, code), due[code]);
        }
        DUE.is("when(0, 9)", book.when(0, 9), -1);
        DUE.is("when(0, -1)", book.when(0, -1), -1);
        DUE.is("when(1, 0)", book.when(1, 0), -1);
        DUE.is("when(-1, 0)", book.when(-1, 0), -1);
        book.day(5);
        DUE.is("as it was in a row no longer left", book.when(0, 2), 1);
        BettingBook comes = Texts.book(TWO_THINGS + "bet x 1 to 1 y that a comes and b comes;"
            + "bet x 1 to 1 y that least 0 by 3;");
        DUE.is("never", comes.when(0, 0), 7);
        DUE.is("one and not the other", comes.when(0, 3), 7);
        DUE.is("both", comes.when(0, 3 + 9 * 6), 5);
        DUE.is("decided from the beginning", comes.when(1, 8), 0);
    }

    private static void whenAmongPossibleRows() {
        BettingBook book = Texts.book(TWO_THINGS + "bars a b;bet x 1 to 1 y that b comes;");
        DUE.is("barred on the day of a", book.when(0, 3), 2);
        DUE.is("not barred", book.when(0, 0), 7);
        DUE.is("came ahead of a", book.when(0, 5 + 9 * 2), 1);
        DUE.is("a row that isn't possible", book.when(0, 2 + 9 * 5), -1);
        BettingBook brought = Texts.book(TWO_THINGS + "brings a b in 3;bet x 1 to 1 y that b comes;");
        DUE.is("brought on the day of a", brought.when(0, 2 + 9 * 5), 1);
    }

    private static void latest() {
        BettingBook book = Texts.book(ONE);
        DUE.is("latest(0)", book.latest(0), 3);
        DUE.is("latest(1)", book.latest(1), -1);
        DUE.is("latest(-1)", book.latest(-1), -1);
        book.day(1);
        book.come(0);
        DUE.is("latest(0), it came", book.latest(0), 1);
        BettingBook two = Texts.book(TWO_THINGS + "bars a b;bet x 1 to 1 y that b comes;"
            + "bet x 1 to 1 y that least 0 by 0;");
        DUE.is("open to the end", two.latest(0), 7);
        DUE.is("decided from the beginning", two.latest(1), 0);
        two.day(2);
        two.come(0);
        DUE.is("barred", two.latest(0), 2);
        // WHEN looks at all POSSIBLE ROWS, TODAY doesn't matter to it.
        BettingBook late = Texts.book("thing r until 2;member a;member b;bet a 1 to 1 b that r comes;");
        DUE.is("until 2", late.latest(0), 2);
        late.day(3);
        DUE.is("when it's over", late.latest(0), 2);
    }

    private static void hang() {
        String three = "thing a;thing b;thing c;member x;member y;";
        BettingBook book = Texts.book(three + "bet x 1 to 1 y that b comes;bet x 1 to 1 y that c before a;"
            + "bet x 1 to 1 y that least 2 by 5;bet x 1 to 1 y that least 0 by 5;"
            + "bet x 1 to 1 y that a comes or not a comes and least 9 by 0;");
        int[] due = {2, 5, 7, 0, 1};
        for (int w = 0; w < due.length; w++) {
            DUE.is("hang(" + w + ")", book.hang(w), due[w]);
        }
        DUE.is("hang(5)", book.hang(5), -1);
        DUE.is("hang(-1)", book.hang(-1), -1);
        book.day(3);
        book.come(2);
        DUE.is("c came, a may still on the same day", book.hang(1), 1);
        DUE.is("one more is enough", book.hang(2), 3);
        book.come(1);
        DUE.is("two came", book.hang(2), 0);
        book.day(4);
        DUE.is("a comes later now, if at all", book.hang(1), 0);
        BettingBook twins = Texts.book(three + "brings b c in 0;brings c b in 0;bet x 1 to 1 y that c comes;"
            + "bet x 1 to 1 y that c before a;");
        DUE.is("of b and c the least", twins.hang(0), 2);
        DUE.is("of two sets the least bits", twins.hang(1), 3);
        BettingBook fewest = Texts.book(three + "brings a c in 0;brings c a in 0;brings b c in 0;brings c b in 0;"
            + "bet x 1 to 1 y that a by 2 and b by 2;");
        DUE.is("one alone", fewest.hang(0), 1);
        BettingBook unlike = Texts.book("thing a until 2;thing b from 1 until 3;thing c from 1 until 2;"
            + "member x;member y;bars c b;brings a c in 1;bars b c;brings a b in 0;brings c a in 1;"
            + "bet x 1 to 1 y that c by 1;");
        DUE.is("c alone, though a and b have less bits", unlike.hang(0), 4);
    }

    private static void same() {
        String bet = "bet x 1 to 1 y that ";
        BettingBook book = Texts.book(TWO_THINGS + "brings a b in 0;" + bet + "a by 1;" + bet + "a by 2;"
            + bet + "not not a by 1;bet x 1 to 2 y that a by 1;" + bet + "a by 1 or a before b;"
            + "bet y 1 to 1 x that a by 1;");
        DUE.is("with itself", book.same(0, 0), -1);
        DUE.is("told otherwise", book.same(0, 2), -1);
        DUE.is("they part on day 2, with b ahead", book.same(0, 1), 3 + 9);
        DUE.is("the other way round", book.same(1, 0), 3 + 9);
        DUE.is("other coins", book.same(0, 3), 1 + 9);
        DUE.is("unlike in rows not possible alone", book.same(0, 4), -1);
        DUE.is("of other members", book.same(0, 5), -1);
        DUE.is("same(0, 6)", book.same(0, 6), -2);
        DUE.is("same(6, 0)", book.same(6, 0), -2);
        DUE.is("same(-1, 0)", book.same(-1, 0), -2);
        book.day(4);
        DUE.is("in rows no longer left", book.same(0, 1), 3 + 9);
        BettingBook off = Texts.book(TWO_THINGS + bet + "a comes off b comes;" + bet + "a comes double b comes;");
        DUE.is("off and double", off.same(0, 1), 9);
    }
}
