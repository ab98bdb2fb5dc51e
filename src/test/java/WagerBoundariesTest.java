/** Promises 6 to 20: a test for each sentence that names a boundary, those of ROWS under promises 12 and 13. */
final class WagerBoundariesTest {
    private static final int NO_COIN = -1000000;
    private static final int LEAST = Integer.MIN_VALUE;
    private static final int GREATEST = Integer.MAX_VALUE;
    private static final String TWO = "thing a;thing b;member x;member y;";
    private static final String THREE = "thing a;thing b;thing c;member x;member y;";
    private static final String BET = "bet x 2 to 3 y that ";
    private static final String EVEN = "bet x 1 to 1 y that ";
    private static final String HOLDS = "least 0 by 0";
    private static final String FAILS = "least 9 by 7";
    /** r never: -2, on DAY 0: off, 1: 6, 2 and 3: 3, later: -2. */
    private static final String ONE =
        "thing r;member x;member y;bet x 2 to 3 y that r by 3 off r by 0 double r by 1;";

    public static void main(String[] arguments) {
        Boundaries.runAll(WagerBoundariesTest.class, 6, 20);
    }

    /** The code of a ROW of two THINGS by their DAYS, -1 for never. */
    private static int row(int a, int b) {
        return a + 1 + 9 * (b + 1);
    }

    // Promise 6: wager

    static void promise06_allThatThereIs(Due due) {
        BettingBook book = Texts.book("thing r;member x;member y;member z;bet z 999 to 1 x that r comes;"
            + "bet x 1 to 2 y that r comes off r by 1;bet y 1 to 999 z that r comes double r by 1;"
            + "bet y 1 to 1 z that r comes off r by 0 double r by 1;");
        int[][] answers = {{2, 0, 999, 1, 0, 0}, {0, 1, 1, 2, 1, 0}, {1, 2, 1, 999, 0, 1}, {1, 2, 1, 1, 1, 1}};
        for (int w = 0; w < answers.length; w++) {
            for (int what = 0; what < 6; what++) {
                due.is("wager(" + w + ", " + what + ")", book.wager(w, what), answers[w][what]);
            }
        }
    }

    static void promise06_theTwelfth(Due due) {
        BettingBook book = Texts.book("thing r;member x;member y;member z;"
            + "bet x 1 to 1 y that r comes;".repeat(11) + "bet y 8 to 9 z that r comes;");
        due.is("side 0", book.wager(11, 0), 1);
        due.is("side 1", book.wager(11, 1), 2);
        due.is("its second coin", book.wager(11, 3), 9);
        due.is("sell(11, 1, 0, 5)", book.sell(11, 1, 0, 5), true);
        due.is("side 1 then", book.wager(11, 1), 0);
        due.is("a thirteenth", book.wager(12, 0), -1);
    }

    static void promise06_noSuchWhat(Due due) {
        BettingBook book = Texts.book(ONE);
        int[] none = {LEAST, -1, 6, 7, GREATEST};
        for (int what : none) {
            due.is("wager(0, " + what + ")", book.wager(0, what), -1);
        }
    }

    static void promise06_noSuchWager(Due due) {
        BettingBook book = Texts.book(ONE);
        int[] none = {LEAST, -1, 1, 12, GREATEST};
        for (int w : none) {
            due.is("wager(" + w + ", 2)", book.wager(w, 2), -1);
        }
    }

    static void promise06_whoHoldsThemNow(Due due) {
        BettingBook book = Texts.book(ONE + "member z;" + EVEN + "r comes;");
        book.sell(0, 1, 2, 0);
        due.is("side 1, sold", book.wager(0, 1), 2);
        due.is("side 0, not sold", book.wager(0, 0), 0);
        due.is("side 1 of the other", book.wager(1, 1), 1);
        book.sell(1, 0, 1, 0);
        due.is("both sides by one, 0", book.wager(1, 0), 1);
        due.is("both sides by one, 1", book.wager(1, 1), 1);
        due.is("the coin stays", book.wager(1, 2), 1);
    }

    static void promise06_offAndDoubleAsTold(Due due) {
        BettingBook book = Texts.book(TWO + BET + "a comes off " + FAILS + " double " + FAILS + ";");
        due.is("it may be off, as told", book.wager(0, 4), 1);
        due.is("it may be double, as told", book.wager(0, 5), 1);
    }

    // Promise 7: day

    static void promise07_theSameDay(Due due) {
        BettingBook book = Texts.book(ONE);
        due.is("day(0) on DAY 0", book.day(0), -1);
        due.is("day(1)", book.day(1), 8);
        due.is("day(1) again", book.day(1), -1);
        due.is("TODAY", book.count(1), 1);
    }

    static void promise07_anEarlierDay(Due due) {
        BettingBook book = Texts.book(ONE);
        book.day(5);
        due.is("day(4)", book.day(4), -1);
        due.is("day(0)", book.day(0), -1);
        due.is("day(-1)", book.day(-1), -1);
        due.is("day(the least number)", book.day(LEAST), -1);
        due.is("TODAY", book.count(1), 5);
        due.is("rows(-1)", book.rows(-1), 4);
    }

    static void promise07_day7(Due due) {
        BettingBook book = Texts.book(ONE);
        due.is("day(7)", book.day(7), 2);
        due.is("TODAY", book.count(1), 7);
        due.is("day(7) again", book.day(7), -1);
    }

    static void promise07_above7(Due due) {
        BettingBook book = Texts.book(ONE);
        due.is("day(8)", book.day(8), -1);
        due.is("day(the greatest number)", book.day(GREATEST), -1);
        due.is("TODAY", book.count(1), 0);
        book.day(7);
        due.is("day(8) on DAY 7", book.day(8), -1);
        due.is("rows(-1)", book.rows(-1), 2);
    }

    static void promise07_daysLeftOut(Due due) {
        BettingBook book = Texts.book(ONE);
        due.is("day(2)", book.day(2), 7);
        due.is("day(6)", book.day(6), 3);
    }

    static void promise07_noRowWouldBeLeft(Due due) {
        BettingBook book = Texts.book("thing a;thing b;brings a b in 2;");
        book.day(1);
        due.is("come(0)", book.come(0), 3);
        due.is("day(4), when b must have come", book.day(4), -1);
        due.is("TODAY", book.count(1), 1);
        due.is("rows(-1)", book.rows(-1), 3);
        due.is("day(3), its last day", book.day(3), 1);
        due.is("day(4) then", book.day(4), -1);
        due.is("come(1)", book.come(1), 1);
        due.is("day(4) at last", book.day(4), 1);
    }

    static void promise07_whatDidNothingLeavesItSure(Due due) {
        BettingBook book = Texts.book("thing a;thing b;brings a b in 0;member x;member y;" + EVEN + "a comes;");
        book.come(0);
        due.is("day(1)", book.day(1), -1);
        due.is("SURE as it was", book.sure(0, 1), 1);
        due.is("count(5)", book.count(5), 1);
        due.is("rows(0)", book.rows(0), row(0, 0));
    }

    // Promise 8: come

    static void promise08_noSuchThing(Due due) {
        BettingBook book = Texts.book(TWO);
        int[] none = {LEAST, -1, 2, 5, GREATEST};
        for (int thing : none) {
            due.is("come(" + thing + ")", book.come(thing), -1);
        }
        due.is("what came", book.count(2), 0);
        due.is("come(1), the last one", book.come(1), 9);
        due.is("come(0), the first one", book.come(0), 1);
    }

    static void promise08_itCameToday(Due due) {
        BettingBook book = Texts.book(TWO);
        book.come(0);
        due.is("come(0) again", book.come(0), -1);
        due.is("rows(-1)", book.rows(-1), 9);
        due.is("what came", book.count(2), 1);
    }

    static void promise08_itCameAheadOfToday(Due due) {
        BettingBook book = Texts.book(TWO);
        book.come(0);
        book.day(3);
        due.is("come(0) again", book.come(0), -1);
        due.is("rows(0)", book.rows(0), row(0, -1));
        due.is("what came", book.count(2), 1);
    }

    static void promise08_aheadOfFrom(Due due) {
        BettingBook book = Texts.book("thing a from 2;");
        book.day(1);
        due.is("on the DAY ahead of it", book.come(0), -1);
        due.is("what came", book.count(2), 0);
        due.is("rows(-1)", book.rows(-1), 7);
        book.day(2);
        due.is("on it", book.come(0), 1);
    }

    static void promise08_behindUntil(Due due) {
        BettingBook book = Texts.book("thing a until 2;thing b until 2;");
        book.day(2);
        due.is("on it", book.come(0), 2);
        book.day(3);
        due.is("on the DAY behind it", book.come(1), -1);
        due.is("what came", book.count(2), 1);
        due.is("rows(-1)", book.rows(-1), 1);
    }

    static void promise08_barred(Due due) {
        BettingBook book = Texts.book("thing a;thing b;thing c;bars a b;bars a c;");
        book.come(0);
        due.is("on the same DAY", book.come(1), 2);
        book.day(1);
        due.is("on the next DAY", book.come(2), -1);
        due.is("what came", book.count(2), 3);
        due.is("rows(-1)", book.rows(-1), 1);
    }

    static void promise08_notBrought(Due due) {
        BettingBook book = Texts.book("thing a from 2;thing b until 1;brings a b in 1;");
        book.day(2);
        due.is("a comes, b hasn't", book.come(0), -1);
        due.is("rows(0)", book.rows(0), 0);
        BettingBook brought = Texts.book("thing a from 2;thing b until 1;brings a b in 1;");
        brought.come(1);
        brought.day(2);
        due.is("a comes, b has", brought.come(0), 1);
    }

    static void promise08_onDay7(Due due) {
        BettingBook book = Texts.book(TWO);
        book.day(7);
        due.is("come(0)", book.come(0), 2);
        due.is("rows(0)", book.rows(0), 8);
        due.is("come(1)", book.come(1), 1);
    }

    // Promise 9: chance

    static void promise09_partsFrom0To100(Due due) {
        BettingBook book = Texts.book("thing r;");
        due.is("chance(0, 0, 100)", book.chance(0, 0, 100), true);
        due.is("count(7)", book.count(7), 1);
        due.is("chance(0, 0, 0)", book.chance(0, 0, 0), true);
        due.is("count(7) then", book.count(7), 0);
    }

    static void promise09_partsBelow0OrAbove100(Due due) {
        BettingBook book = Texts.book("thing r;");
        book.chance(0, 0, 100);
        int[] none = {LEAST, -100, -1, 101, GREATEST};
        for (int parts : none) {
            due.is("chance(0, 0, " + parts + ")", book.chance(0, 0, parts), false);
        }
        due.is("nothing was done", book.count(7), 1);
    }

    static void promise09_everyDayAndNever(Due due) {
        BettingBook book = Texts.book("thing r from 3 until 4;");
        for (int day = -1; day <= 7; day++) {
            due.is("chance(0, " + day + ", 100)", book.chance(0, day, 100), true);
            due.is("count(7)", book.count(7), 1);
            due.is("chance(0, " + day + ", 0)", book.chance(0, day, 0), true);
        }
    }

    static void promise09_noSuchDay(Due due) {
        BettingBook book = Texts.book("thing r;thing s;");
        book.chance(0, 7, 100);
        book.chance(1, -1, 100);
        int[] none = {LEAST, -2, 8, 9, GREATEST};
        for (int day : none) {
            due.is("chance(0, " + day + ", 1)", book.chance(0, day, 1), false);
            due.is("chance(1, " + day + ", 1)", book.chance(1, day, 1), false);
        }
        due.is("nothing was done", book.count(7), 1);
    }

    static void promise09_noSuchThing(Due due) {
        BettingBook book = Texts.book("thing r;");
        book.chance(0, 7, 100);
        int[] none = {LEAST, -1, 1, 5, GREATEST};
        for (int thing : none) {
            due.is("chance(" + thing + ", 0, 1)", book.chance(thing, 0, 1), false);
        }
        due.is("nothing was done", book.count(7), 1);
    }

    static void promise09_atFirstAllAre0(Due due) {
        BettingBook book = Texts.book("thing r;");
        due.is("count(7)", book.count(7), 0);
        book.chance(0, 3, 100);
        due.is("count(7) with all on one DAY", book.count(7), 1);
    }

    static void promise09_theLatestCounts(Due due) {
        BettingBook book = Texts.book("thing r;");
        book.chance(0, 3, 40);
        book.chance(0, 3, 70);
        book.chance(0, -1, 30);
        due.is("count(7)", book.count(7), 1);
    }

    // Promise 10: sell

    static void promise10_side0And1(Due due) {
        BettingBook book = Texts.book("thing r;member x;member y;member z;" + BET + "r comes;");
        due.is("side 0", book.sell(0, 0, 2, 4), true);
        due.is("side 1", book.sell(0, 1, 2, 6), true);
        due.is("who sold side 0", book.has(0), 4);
        due.is("who sold side 1", book.has(1), 6);
        due.is("who bought both", book.has(2), -10);
        due.is("count(8)", book.count(8), 2);
    }

    static void promise10_noSuchSide(Due due) {
        refuses(due, new int[][] {{0, -1, 2, 5}, {0, 2, 2, 5}, {0, LEAST, 2, 5}, {0, GREATEST, 2, 5}});
    }

    static void promise10_noSuchWager(Due due) {
        refuses(due, new int[][] {{-1, 0, 2, 5}, {2, 0, 2, 5}, {12, 0, 2, 5}, {LEAST, 0, 2, 5}, {GREATEST, 1, 2, 5}});
    }

    static void promise10_noSuchMember(Due due) {
        refuses(due, new int[][] {{0, 0, -1, 5}, {0, 0, 3, 5}, {0, 0, 6, 5}, {0, 1, LEAST, 5}, {0, 1, GREATEST, 5}});
    }

    static void promise10_coinBelow0OrAbove9999(Due due) {
        refuses(due, new int[][] {{0, 0, 2, -1}, {0, 0, 2, 10000}, {0, 1, 2, LEAST}, {0, 1, 2, GREATEST}});
    }

    static void promise10_theirs(Due due) {
        refuses(due, new int[][] {{0, 0, 0, 5}, {0, 1, 1, 5}});
    }

    static void promise10_sureFromTheBeginning(Due due) {
        refuses(due, new int[][] {{1, 0, 2, 5}, {1, 1, 2, 5}});
    }

    /** Wager 0 is open, wager 1 is SURE: sales that are refused, doing nothing. */
    private static void refuses(Due due, int[][] sales) {
        BettingBook book = Texts.book("thing r;member x;member y;member z;" + BET + "r comes;" + BET + HOLDS + ";");
        for (int[] sale : sales) {
            due.is("sell(" + sale[0] + ", " + sale[1] + ", " + sale[2] + ", " + sale[3] + ")",
                book.sell(sale[0], sale[1], sale[2], sale[3]), false);
        }
        due.is("count(8)", book.count(8), 0);
        due.is("side 0", book.wager(0, 0), 0);
        due.is("side 1", book.wager(0, 1), 1);
        due.is("has(0)", book.has(0), 3);
        due.is("has(1)", book.has(1), -3);
        due.is("has(2)", book.has(2), 0);
    }

    static void promise10_coin0And9999(Due due) {
        BettingBook book = Texts.book("thing r;member x;member y;" + BET + "r comes;");
        due.is("for 0", book.sell(0, 0, 1, 0), true);
        due.is("nobody owes", book.has(0), 0);
        due.is("for 9999", book.sell(0, 0, 0, 9999), true);
        due.is("the seller", book.has(1), 9999);
        due.is("the buyer", book.has(0), -9999);
    }

    static void promise10_theirsOnceBought(Due due) {
        BettingBook book = Texts.book("thing r;member x;member y;member z;" + BET + "r comes;");
        book.sell(0, 0, 2, 5);
        due.is("to the buyer again", book.sell(0, 0, 2, 5), false);
        due.is("back to the first", book.sell(0, 0, 0, 5), true);
        due.is("has(0)", book.has(0), 0);
        due.is("count(8)", book.count(8), 2);
    }

    static void promise10_toWhoHoldsTheOtherSide(Due due) {
        BettingBook book = Texts.book("thing r;member x;member y;" + BET + "r comes;");
        due.is("sell(0, 1, 0, 2)", book.sell(0, 1, 0, 2), true);
        due.is("side 1", book.wager(0, 1), 0);
    }

    static void promise10_sureByNow(Due due) {
        BettingBook book = Texts.book("thing r;member x;member y;" + BET + "r by 2;");
        book.day(2);
        due.is("on the last DAY that it's open", book.sell(0, 0, 1, 5), true);
        book.day(3);
        due.is("on the next", book.sell(0, 0, 0, 5), false);
        due.is("side 0", book.wager(0, 0), 1);
    }

    // Promise 11: paid

    static void promise11_coin1And9999(Due due) {
        BettingBook book = Texts.book("member x;member y;");
        due.is("paid(0, 1, 1)", book.paid(0, 1, 1), true);
        due.is("has(0)", book.has(0), 1);
        due.is("paid(1, 0, 9999)", book.paid(1, 0, 9999), true);
        due.is("has(0) then", book.has(0), -9998);
        due.is("has(1) then", book.has(1), 9998);
    }

    static void promise11_coinBelow1OrAbove9999(Due due) {
        BettingBook book = Texts.book("member x;member y;");
        int[] none = {LEAST, -5, 0, 10000, GREATEST};
        for (int coin : none) {
            due.is("paid(0, 1, " + coin + ")", book.paid(0, 1, coin), false);
        }
        due.is("has(0)", book.has(0), 0);
        due.is("has(1)", book.has(1), 0);
    }

    static void promise11_noSuchMember(Due due) {
        BettingBook book = Texts.book("member x;member y;");
        int[] none = {LEAST, -1, 2, 6, GREATEST};
        for (int member : none) {
            due.is("by " + member, book.paid(member, 1, 5), false);
            due.is("to " + member, book.paid(0, member, 5), false);
        }
        due.is("has(0)", book.has(0), 0);
        due.is("has(1)", book.has(1), 0);
    }

    static void promise11_oneAndTheSame(Due due) {
        BettingBook book = Texts.book("member x;member y;");
        due.is("paid(0, 0, 5)", book.paid(0, 0, 5), false);
        due.is("paid(1, 1, 5)", book.paid(1, 1, 5), false);
        due.is("paid(-1, -1, 5)", book.paid(-1, -1, 5), false);
        due.is("has(0)", book.has(0), 0);
    }

    // Promise 12: rows

    static void promise12_howMany(Due due) {
        due.is("no THINGS", Texts.book("member x;").rows(-1), 1);
        due.is("one THING", Texts.book("thing a;").rows(-1), 9);
        due.is("from 2 until 2", Texts.book("thing a from 2 until 2;").rows(-1), 2);
        due.is("two", Texts.book(TWO).rows(-1), 81);
        due.is("five", Texts.book(THREE + "thing d;thing e;").rows(-1), 59049);
    }

    static void promise12_theFirstAndTheLast(Due due) {
        BettingBook book = Texts.book("thing a from 6;thing b until 1;");
        due.is("rows(0)", book.rows(0), 0);
        due.is("rows(1)", book.rows(1), row(6, -1));
        due.is("rows(3)", book.rows(3), row(-1, 0));
        due.is("rows(8)", book.rows(8), row(7, 1));
        due.is("rows(9)", book.rows(9), -1);
    }

    static void promise12_noneSuch(Due due) {
        BettingBook book = Texts.book("thing a;");
        int[] none = {LEAST, -2, 9, GREATEST};
        for (int k : none) {
            due.is("rows(" + k + ")", book.rows(k), -1);
        }
    }

    static void promise12_onlyThoseLeft(Due due) {
        BettingBook book = Texts.book("thing a;thing b until 5;bars a b;");
        book.day(5);
        // a: never, 5, 6, 7; b: never, 5
        due.is("rows(-1)", book.rows(-1), 8);
        due.is("rows(1)", book.rows(1), row(5, -1));
        due.is("rows(4)", book.rows(4), row(-1, 5));
        due.is("rows(7)", book.rows(7), row(7, 5));
        book.come(0);
        due.is("rows(-1), a came", book.rows(-1), 2);
        due.is("rows(0), a came", book.rows(0), row(5, -1));
        due.is("rows(2), a came", book.rows(2), -1);
    }

    // Promise 13: fits

    static void promise13_noSuchCode(Due due) {
        BettingBook book = Texts.book(TWO);
        due.is("fits(80), the last", book.fits(80), 2);
        int[] none = {LEAST, -1, 81, 59049, GREATEST};
        for (int code : none) {
            due.is("fits(" + code + ")", book.fits(code), -1);
        }
    }

    static void promise13_aDayOutOfFromAndUntil(Due due) {
        BettingBook book = Texts.book("thing a from 2 until 4;thing b from 7;");
        int[] ofA = {2, -1, -1, 2, 2, 2, -1, -1, -1};
        int[] ofB = {2, -1, -1, -1, -1, -1, -1, -1, 2};
        for (int day = -1; day <= 7; day++) {
            due.is("a on " + day, book.fits(row(day, -1)), ofA[day + 1]);
            due.is("b on " + day, book.fits(row(-1, day)), ofB[day + 1]);
        }
        due.is("one of two is out of it", book.fits(row(3, 0)), -1);
    }

    static void promise13_bars(Due due) {
        BettingBook book = Texts.book(TWO + "bars a b;");
        due.is("b on the same DAY", book.fits(row(3, 3)), 2);
        due.is("b on the DAY behind", book.fits(row(3, 4)), 0);
        due.is("b on DAY 7", book.fits(row(3, 7)), 0);
        due.is("b ahead", book.fits(row(3, 2)), 2);
        due.is("b never", book.fits(row(3, -1)), 2);
        due.is("a never", book.fits(row(-1, 7)), 2);
        due.is("neither", book.fits(row(-1, -1)), 2);
        due.is("both on DAY 0", book.fits(row(0, 0)), 2);
        due.is("a on DAY 0", book.fits(row(0, 1)), 0);
    }

    static void promise13_bringsByThen(Due due) {
        BettingBook book = Texts.book(TWO + "brings a b in 2;");
        due.is("b on the last DAY", book.fits(row(3, 5)), 2);
        due.is("b a DAY late", book.fits(row(3, 6)), 0);
        due.is("b never", book.fits(row(3, -1)), 0);
        due.is("b on the same DAY", book.fits(row(3, 3)), 2);
        due.is("b ahead", book.fits(row(3, 0)), 2);
        due.is("a never", book.fits(row(-1, 7)), 2);
        due.is("neither", book.fits(row(-1, -1)), 2);
    }

    static void promise13_bringsBeyondDay7(Due due) {
        BettingBook book = Texts.book(TWO + "brings a b in 2;");
        due.is("5 and 2 are 7: b never", book.fits(row(5, -1)), 0);
        due.is("5 and 2 are 7: b on 7", book.fits(row(5, 7)), 2);
        due.is("6 and 2 are 8: b never", book.fits(row(6, -1)), 2);
        due.is("6 and 2 are 8: b on 7", book.fits(row(6, 7)), 2);
    }

    static void promise13_bringsIn0AndIn7(Due due) {
        BettingBook in0 = Texts.book(TWO + "brings a b in 0;");
        due.is("in 0, on the same DAY", in0.fits(row(7, 7)), 2);
        due.is("in 0, never", in0.fits(row(7, -1)), 0);
        due.is("in 0, a DAY late", in0.fits(row(6, 7)), 0);
        BettingBook in7 = Texts.book(TWO + "brings a b in 7;");
        due.is("in 7, a on 0, b never", in7.fits(row(0, -1)), 0);
        due.is("in 7, a on 0, b on 7", in7.fits(row(0, 7)), 2);
        due.is("in 7, a on 1, b never", in7.fits(row(1, -1)), 2);
    }

    static void promise13_eachRuleOfSeveral(Due due) {
        BettingBook book = Texts.book(THREE + "bars a b;brings b c in 1;");
        due.is("both kept", book.fits(row(3, 2) + 81 * 4), 2);
        due.is("the first broken", book.fits(row(1, 2) + 81 * 4), 0);
        due.is("the second broken", book.fits(row(3, 2)), 0);
    }

    static void promise13_nothingAheadOfToday(Due due) {
        BettingBook book = Texts.book(TWO);
        book.day(3);
        due.is("TODAY", book.fits(row(3, -1)), 2);
        due.is("a DAY ahead", book.fits(row(2, -1)), 1);
        due.is("never", book.fits(row(-1, -1)), 2);
        due.is("one of two ahead", book.fits(row(7, 0)), 1);
    }

    static void promise13_whatCameOnItsDay(Due due) {
        BettingBook book = Texts.book(TWO);
        book.day(3);
        book.come(0);
        book.day(5);
        due.is("on its DAY", book.fits(row(3, -1)), 2);
        due.is("a DAY ahead", book.fits(row(2, -1)), 1);
        due.is("a DAY behind", book.fits(row(4, -1)), 1);
        due.is("TODAY", book.fits(row(5, -1)), 1);
        due.is("never", book.fits(row(-1, -1)), 1);
        due.is("the other one TODAY", book.fits(row(3, 5)), 2);
        due.is("the other one a DAY ahead of it", book.fits(row(3, 4)), 1);
    }

    static void promise13_notPossibleStaysSo(Due due) {
        BettingBook book = Texts.book(TWO + "bars a b;");
        book.day(3);
        due.is("later than TODAY", book.fits(row(4, 5)), 0);
        due.is("ahead of TODAY", book.fits(row(1, 2)), 0);
    }

    // Promise 14: pays, and what ONE and ANY are in a ROW

    static void promise14_noneSuch(Due due) {
        BettingBook book = Texts.book(ONE + "thing s from 3;");
        int[] wagers = {LEAST, -1, 1, 12, GREATEST};
        for (int w : wagers) {
            due.is("pays(" + w + ", 0)", book.pays(w, 0), NO_COIN);
        }
        int[] codes = {LEAST, -1, 81, GREATEST, row(0, 2)};
        for (int code : codes) {
            due.is("pays(0, " + code + ")", book.pays(0, code), NO_COIN);
        }
        due.is("pays(0, 80)", book.pays(0, 80), -2);
    }

    static void promise14_possibleOrNot(Due due) {
        BettingBook book = Texts.book(TWO + "bars a b;" + BET + "b comes;");
        due.is("in a ROW that isn't POSSIBLE", book.pays(0, row(0, 1)), 3);
        book.day(5);
        due.is("in a ROW that isn't LEFT", book.pays(0, row(1, 1)), 3);
        due.is("in a ROW that's LEFT", book.pays(0, row(5, -1)), -2);
    }

    static void promise14_offPays0(Due due) {
        due.is("off, won", pays("a comes off a comes", 0), 0);
        due.is("off, lost", pays("b comes off a comes", 0), 0);
        due.is("off and double", pays("a comes off a comes double a comes", 0), 0);
        due.is("its off doesn't hold", pays("a comes off b comes", 0), 3);
    }

    static void promise14_theCoins(Due due) {
        due.is("won", pays("a comes", 0), 3);
        due.is("lost", pays("b comes", 0), -2);
        due.is("won twice", pays("a comes double a comes", 0), 6);
        due.is("lost twice", pays("b comes double a comes", 0), -4);
        due.is("its double doesn't hold", pays("a comes double b comes", 0), 3);
    }

    static void promise14_theGreatestCoins(Due due) {
        BettingBook book = Texts.book(TWO + "bet x 999 to 998 y that a comes double " + HOLDS + ";");
        due.is("won twice", book.pays(0, 1), 1996);
        due.is("lost twice", book.pays(0, 0), -1998);
    }

    static void promise14_theTwelfth(Due due) {
        BettingBook book = Texts.book(ONE.replace("bet", (EVEN + "r comes;").repeat(11) + "bet") + "thing s;");
        int[] coins = {-2, 0, 6, 3, 3, -2, -2, -2, -2};
        for (int code = 0; code < coins.length; code++) {
            due.is("pays(11, " + code + ")", book.pays(11, code), coins[code]);
        }
        due.is("a thirteenth", book.pays(12, 0), NO_COIN);
    }

    /** What a wager pays in the ROW in which a comes on a DAY and b never. */
    private static int pays(String claims, int day) {
        return Texts.book(TWO + BET + claims + ";").pays(0, row(day, -1));
    }

    /** Whether ANY holds with a and b on these DAYS. */
    private static boolean holds(String claim, int a, int b) {
        return Texts.book(TWO + BET + claim + ";").pays(0, row(a, b)) == 3;
    }

    static void promise14_comes(Due due) {
        due.is("on DAY 0", holds("a comes", 0, -1), true);
        due.is("on DAY 7", holds("a comes", 7, -1), true);
        due.is("never", holds("a comes", -1, 0), false);
    }

    static void promise14_by(Due due) {
        due.is("on the DAY", holds("a by 3", 3, -1), true);
        due.is("ahead", holds("a by 3", 2, -1), true);
        due.is("a DAY late", holds("a by 3", 4, -1), false);
        due.is("never", holds("a by 3", -1, 0), false);
        due.is("by 0 on DAY 0", holds("a by 0", 0, -1), true);
        due.is("by 0 on DAY 1", holds("a by 0", 1, -1), false);
        due.is("by 7 on DAY 7", holds("a by 7", 7, -1), true);
        due.is("by 7, never", holds("a by 7", -1, 7), false);
    }

    static void promise14_before(Due due) {
        due.is("the other a DAY later", holds("a before b", 3, 4), true);
        due.is("on the same DAY", holds("a before b", 3, 3), false);
        due.is("the other a DAY ahead", holds("a before b", 3, 2), false);
        due.is("the other never", holds("a before b", 7, -1), true);
        due.is("the first never", holds("a before b", -1, 7), false);
        due.is("neither", holds("a before b", -1, -1), false);
        due.is("both on DAY 0", holds("a before b", 0, 0), false);
    }

    static void promise14_least(Due due) {
        due.is("so many", holds("least 2 by 4", 4, 0), true);
        due.is("one too few", holds("least 2 by 4", 4, 5), false);
        due.is("one too few, one never", holds("least 2 by 4", -1, 4), false);
        due.is("more", holds("least 1 by 4", 4, 4), true);
        due.is("none needed", holds("least 0 by 0", -1, -1), true);
        due.is("more than there are", holds("least 3 by 7", 0, 0), false);
        due.is("nine", holds("least 9 by 7", 0, 0), false);
        BettingBook five = Texts.book(THREE + "thing d;thing e;" + BET + "least 5 by 7;");
        due.is("all five", five.pays(0, 59048), 3);
        due.is("four of five", five.pays(0, 59048 - 8 * 6561), -2);
    }

    static void promise14_leastWithoutThings(Due due) {
        BettingBook book = Texts.book("member x;member y;" + BET + "least 0 by 7;" + BET + "least 1 by 7;");
        due.is("none needed", book.pays(0, 0), 3);
        due.is("one needed", book.pays(1, 0), -2);
    }

    static void promise14_notOfOneAlone(Due due) {
        due.is("not .. or ..", holds("not a comes or b comes", 0, 0), true);
        due.is("not .. and ..", holds("not a comes and b comes", -1, -1), false);
        due.is("not (.. or ..)", holds("not (a comes or b comes)", -1, 0), false);
        due.is("not not", holds("not not a comes", 0, -1), true);
    }

    static void promise14_andAheadOfOr(Due due) {
        due.is("first or second and third", holds("a by 0 or b by 0 and b by 1", 0, -1), true);
        due.is("first and second or third", holds("a by 0 and b by 0 or b by 1", 5, 1), true);
        due.is("(first or second) and third", holds("(a by 0 or b by 0) and b by 1", 0, -1), false);
        due.is("first and (second or third)", holds("a by 0 and (b by 0 or b by 1)", 5, 1), false);
    }

    static void promise14_theLastOfMany(Due due) {
        due.is("or, the last holds", holds("a by 0 or a by 1 or a by 2 or b by 3", 5, 3), true);
        due.is("or, none holds", holds("a by 0 or a by 1 or a by 2 or b by 3", 5, 4), false);
        due.is("and, the last fails", holds("a by 6 and a by 5 and a comes and b by 3", 5, 4), false);
        due.is("and, all hold", holds("a by 6 and a by 5 and a comes and b by 3", 5, 3), true);
    }

    static void promise14_nineOpen(Due due) {
        String deep = ("(" + FAILS + " or " + HOLDS + " and ").repeat(9) + "a by 3" + ")".repeat(9);
        due.is("nine (, it holds", holds(deep, 3, -1), true);
        due.is("nine (, it fails", holds(deep, 4, -1), false);
        String nots = "not ".repeat(9) + "a by 3";
        due.is("nine not, it fails", holds(nots, 3, -1), false);
        due.is("nine not, it holds", holds(nots, 4, -1), true);
    }

    // Promise 15: sure

    static void promise15_noneSuch(Due due) {
        BettingBook book = Texts.book(ONE);
        int[] none = {LEAST, -1, 1, 12, GREATEST};
        for (int w : none) {
            due.is("sure(" + w + ", 0)", book.sure(w, 0), NO_COIN);
            due.is("sure(" + w + ", 1)", book.sure(w, 1), NO_COIN);
        }
    }

    static void promise15_noSuchWhat(Due due) {
        BettingBook book = Texts.book(ONE);
        int[] none = {LEAST, -1, 2, GREATEST};
        for (int what : none) {
            due.is("sure(0, " + what + ")", book.sure(0, what), NO_COIN);
        }
    }

    static void promise15_itPays0IfItIsnt(Due due) {
        BettingBook book = Texts.book(ONE);
        due.is("sure(0, 0)", book.sure(0, 0), 0);
        due.is("sure(0, 1)", book.sure(0, 1), 0);
    }

    static void promise15_untilTheLastOtherRowIsGone(Due due) {
        BettingBook book = Texts.book("thing r;member x;member y;" + BET + "r by 2;");
        book.day(2);
        due.is("sure(0, 0) on DAY 2", book.sure(0, 0), 0);
        book.day(3);
        due.is("sure(0, 0) on DAY 3", book.sure(0, 0), 1);
        due.is("sure(0, 1) on DAY 3", book.sure(0, 1), -2);
    }

    static void promise15_lostOnceOrTwiceIsNotTheSame(Due due) {
        BettingBook book = Texts.book("thing r;member x;member y;" + BET + FAILS + " double r comes;"
            + BET + HOLDS + " double r comes;" + BET + HOLDS + " off r comes;");
        due.is("lost", book.sure(0, 0), 0);
        due.is("won", book.sure(1, 0), 0);
        due.is("won or off", book.sure(2, 0), 0);
        book.come(0);
        due.is("lost twice", book.sure(0, 1), -4);
        due.is("won twice", book.sure(1, 1), 6);
        due.is("off", book.sure(2, 0), 1);
        due.is("off pays", book.sure(2, 1), 0);
    }

    static void promise15_withOneRow(Due due) {
        BettingBook book = Texts.book("member x;member y;" + BET + HOLDS + ";" + BET + FAILS + ";");
        due.is("won", book.sure(0, 1), 3);
        due.is("lost", book.sure(1, 1), -2);
    }

    static void promise15_byRowsLeftAlone(Due due) {
        BettingBook book = Texts.book(TWO + "bars a b;" + BET + "b comes;");
        book.come(0);
        due.is("b may come TODAY", book.sure(0, 0), 0);
        book.day(1);
        due.is("b is barred", book.sure(0, 1), -2);
    }

    // Promise 16: split

    static void promise16_allFour(Due due) {
        BettingBook book = Texts.book(ONE);
        due.is("side 0 wins", book.split(0, 0), 3);
        due.is("side 1 wins", book.split(0, 1), 5);
        due.is("off", book.split(0, 2), 1);
        due.is("double and not off", book.split(0, 3), 1);
    }

    static void promise16_doubleForSide1(Due due) {
        BettingBook book = Texts.book("thing r;member x;member y;" + BET + "r by 1 off r by 0 double " + HOLDS + ";");
        due.is("side 0 wins", book.split(0, 0), 1);
        due.is("side 1 wins", book.split(0, 1), 7);
        due.is("off", book.split(0, 2), 1);
        due.is("double and not off", book.split(0, 3), 8);
    }

    static void promise16_noneSuch(Due due) {
        BettingBook book = Texts.book(ONE);
        int[] wagers = {LEAST, -1, 1, 12, GREATEST};
        for (int w : wagers) {
            due.is("split(" + w + ", 0)", book.split(w, 0), -1);
        }
        int[] whats = {LEAST, -1, 4, GREATEST};
        for (int what : whats) {
            due.is("split(0, " + what + ")", book.split(0, what), -1);
        }
    }

    static void promise16_rowsLeftAlone(Due due) {
        BettingBook book = Texts.book(TWO + "bars a b;" + BET + "b comes;");
        due.is("POSSIBLE alone", book.split(0, 0), 44);
        book.day(6);
        // a, b: never, 6, 7; not a on 6 with b on 7
        due.is("side 0 on DAY 6", book.split(0, 0), 5);
        due.is("side 1 on DAY 6", book.split(0, 1), 3);
        due.is("off on DAY 6", book.split(0, 2), 0);
    }

    // Promise 17: when

    static void promise17_everyDay(Due due) {
        BettingBook book = Texts.book(ONE);
        int[] days = {3, 0, 1, 2, 3, 3, 3, 3, 3};
        for (int code = 0; code < 9; code++) {
            due.is("when(0, " + code + ")", book.when(0, code), days[code]);
        }
    }

    static void promise17_onDay0AndDay7(Due due) {
        BettingBook book = Texts.book("thing r;member x;member y;" + EVEN + "r comes;" + EVEN + HOLDS + ";");
        due.is("never", book.when(0, 0), 7);
        due.is("on DAY 0", book.when(0, 1), 0);
        due.is("on DAY 7, never alone pays otherwise", book.when(0, 8), 7);
        due.is("always the same", book.when(1, 8), 0);
    }

    static void promise17_noneSuch(Due due) {
        BettingBook book = Texts.book("thing r from 2 until 5;member x;member y;" + EVEN + "r comes;");
        int[] codes = {LEAST, -1, 1, 2, 7, 8, 9, GREATEST};
        for (int code : codes) {
            due.is("when(0, " + code + ")", book.when(0, code), -1);
        }
        int[] wagers = {LEAST, -1, 1, GREATEST};
        for (int w : wagers) {
            due.is("when(" + w + ", 0)", book.when(w, 0), -1);
        }
        due.is("when(0, 0)", book.when(0, 0), 5);
        due.is("when(0, 3)", book.when(0, 3), 2);
    }

    static void promise17_aRowThatIsntPossible(Due due) {
        BettingBook book = Texts.book(TWO + "bars a b;" + EVEN + "b comes;");
        due.is("a on 2, b on 3", book.when(0, row(2, 3)), -1);
        due.is("a on 2, b on 2", book.when(0, row(2, 2)), 2);
    }

    static void promise17_possibleRowsAlone(Due due) {
        BettingBook book = Texts.book(TWO + "bars a b;" + EVEN + "b comes;");
        due.is("from a on no b is possible", book.when(0, row(2, -1)), 2);
        BettingBook brought = Texts.book(TWO + "brings a b in 3;" + EVEN + "b comes;");
        due.is("a brings b", brought.when(0, row(1, 4)), 1);
        due.is("b comes first", brought.when(0, row(4, 1)), 1);
    }

    static void promise17_rowsNoLongerLeftToo(Due due) {
        BettingBook book = Texts.book("thing r;member x;member y;" + EVEN + "r by 4;");
        book.day(3);
        due.is("a ROW that isn't LEFT", book.when(0, 3), 2);
        due.is("never", book.when(0, 0), 4);
        book.come(0);
        due.is("as it was", book.when(0, 0), 4);
        due.is("it came", book.when(0, 4), 3);
    }

    static void promise17_noOthersByThen(Due due) {
        BettingBook book = Texts.book(TWO + EVEN + "a comes and not b comes;");
        due.is("a on 2, b never", book.when(0, row(2, -1)), 7);
        due.is("a on 2, b on 5", book.when(0, row(2, 5)), 5);
        due.is("a on 5, b on 2", book.when(0, row(5, 2)), 2);
        due.is("both on 3", book.when(0, row(3, 3)), 3);
    }

    // Promise 18: latest

    static void promise18_theGreatest(Due due) {
        due.is("DAY 3", Texts.book(ONE).latest(0), 3);
        BettingBook book = Texts.book(TWO + EVEN + "a comes;" + EVEN + HOLDS + ";" + EVEN + "a by 0;"
            + EVEN + "b by 1;");
        due.is("DAY 7", book.latest(0), 7);
        due.is("DAY 0, always the same", book.latest(1), 0);
        due.is("DAY 0", book.latest(2), 0);
        due.is("DAY 1", book.latest(3), 1);
    }

    static void promise18_eachOfManyThings(Due due) {
        BettingBook book = Texts.book(THREE + "thing d;thing e;" + EVEN + "a by 3;" + EVEN + "b by 4;"
            + EVEN + "c by 5;" + EVEN + "d by 6;" + EVEN + "e by 2;" + EVEN + "least 5 by 1;");
        int[] days = {3, 4, 5, 6, 2, 1};
        for (int w = 0; w < days.length; w++) {
            due.is("latest(" + w + ")", book.latest(w), days[w]);
        }
    }

    static void promise18_noneSuch(Due due) {
        BettingBook book = Texts.book(ONE);
        int[] none = {LEAST, -1, 1, 12, GREATEST};
        for (int w : none) {
            due.is("latest(" + w + ")", book.latest(w), -1);
        }
    }

    static void promise18_ofRowsLeftAlone(Due due) {
        BettingBook book = Texts.book("thing r;member x;member y;" + EVEN + "r by 5;");
        due.is("at first", book.latest(0), 5);
        book.day(2);
        book.come(0);
        due.is("it came", book.latest(0), 2);
    }

    static void promise18_whenOfPossibleRows(Due due) {
        BettingBook book = Texts.book("thing r until 2;member x;member y;" + EVEN + "r comes;");
        book.day(5);
        due.is("never, which was decided on DAY 2", book.latest(0), 2);
    }

    static void promise18_possibleRowsAlone(Due due) {
        BettingBook book = Texts.book(TWO + "bars a b;" + EVEN + "b comes;");
        due.is("while a hasn't come", book.latest(0), 7);
        book.day(2);
        book.come(0);
        due.is("from then on no b is POSSIBLE", book.latest(0), 2);
    }

    static void promise18_whereNeverIsntPossible(Due due) {
        BettingBook book = Texts.book("thing a until 1;thing b;brings a b in 3;member x;member y;"
            + EVEN + "b by 3 and a comes;");
        due.is("with a on 1: b by 3 or on 4", book.latest(0), 3);
    }

    static void promise18_aLesserBookBehindAGreaterOne(Due due) {
        BettingBook book = Texts.book(TWO + EVEN + "a by 3 and b by 4;");
        due.is("of two THINGS", book.latest(0), 4);
        Texts.tell(book, "thing a;member x;member y;" + EVEN + "a by 2;");
        due.is("of one", book.latest(0), 2);
    }

    // Promise 19: hang

    static void promise19_noneAndAll(Due due) {
        BettingBook book = Texts.book(THREE + "thing d;thing e;" + EVEN + HOLDS + ";" + EVEN + "least 3 by 5;"
            + EVEN + "e comes;" + EVEN + "a comes or not a comes;");
        due.is("none", book.hang(0), 0);
        due.is("all five", book.hang(1), 31);
        due.is("the last", book.hang(2), 16);
        due.is("none, though one is told", book.hang(3), 0);
    }

    static void promise19_noneSuch(Due due) {
        BettingBook book = Texts.book(ONE);
        int[] none = {LEAST, -1, 1, 12, GREATEST};
        for (int w : none) {
            due.is("hang(" + w + ")", book.hang(w), -1);
        }
    }

    static void promise19_fewestAheadOfLeast(Due due) {
        BettingBook book = Texts.book("thing a until 2;thing b from 1 until 3;thing c from 1 until 2;"
            + "member x;member y;bars c b;brings a c in 1;bars b c;brings a b in 0;brings c a in 1;"
            + EVEN + "c by 1;");
        due.is("c, not a and b", book.hang(0), 4);
    }

    static void promise19_ofAsFewTheLeast(Due due) {
        BettingBook book = Texts.book(THREE + "brings b c in 0;brings c b in 0;" + EVEN + "c comes;"
            + EVEN + "c before a;");
        due.is("b, not c", book.hang(0), 2);
        due.is("a and b, not a and c", book.hang(1), 3);
        BettingBook four = Texts.book("thing a from 1 until 1;thing b until 2;thing c until 2;thing d until 1;"
            + "member x;member y;bars d b;brings b a in 2;brings b d in 0;brings c d in 0;brings d c in 1;"
            + "brings a b in 0;" + EVEN + "b by 0 or not d comes;");
        // ROWS by a b c d: won in 1 0 0 0, 1 0 1 0 and where none comes; lost in 1 1 1 1, 1 1 2 1 and, a and b
        // never, 0 0, 1 0, 1 1, 2 1
        due.is("b and c, not a and d", four.hang(0), 6);
    }

    static void promise19_eachOfSeveralThings(Due due) {
        BettingBook book = Texts.book(THREE + EVEN + "a by 3;" + EVEN + "b by 3;" + EVEN + "c by 3;"
            + EVEN + "a before b;" + EVEN + "c before a;" + EVEN + "b before c;");
        int[] things = {1, 2, 4, 3, 5, 6};
        for (int w = 0; w < things.length; w++) {
            due.is("hang(" + w + ")", book.hang(w), things[w]);
        }
    }

    static void promise19_rowsLeftAlone(Due due) {
        BettingBook book = Texts.book(TWO + EVEN + "a by 3 and b by 3;");
        due.is("at first", book.hang(0), 3);
        book.come(0);
        due.is("a came", book.hang(0), 2);
        book.day(4);
        due.is("b may come too late alone", book.hang(0), 0);
    }

    static void promise19_neverToo(Due due) {
        BettingBook book = Texts.book("thing a until 0;thing b until 0;member x;member y;" + EVEN + "a comes;"
            + EVEN + "not a comes and not b comes;");
        due.is("never against DAY 0", book.hang(0), 1);
        due.is("both never", book.hang(1), 3);
    }

    // Promise 20: same

    static void promise20_same(Due due) {
        BettingBook book = Texts.book(TWO + BET + "a comes;" + BET + "not not a by 7;");
        due.is("same(0, 1)", book.same(0, 1), -1);
        due.is("same(1, 0)", book.same(1, 0), -1);
        due.is("same(1, 1)", book.same(1, 1), -1);
    }

    static void promise20_code0AndTheLast(Due due) {
        BettingBook book = Texts.book(TWO + BET + "a comes;" + BET + HOLDS + ";"
            + BET + HOLDS + " off a comes and b comes and not a by 6 and not b by 6;");
        due.is("code 0", book.same(0, 1), 0);
        due.is("code 80", book.same(1, 2), 80);
    }

    static void promise20_theLeastCode(Due due) {
        BettingBook book = Texts.book(TWO + BET + "a by 1;" + BET + "a by 2 or b by 0;");
        due.is("same(0, 1)", book.same(0, 1), row(2, -1));
        due.is("same(1, 0)", book.same(1, 0), row(2, -1));
    }

    static void promise20_possibleRowsAlone(Due due) {
        BettingBook book = Texts.book(TWO + "brings a b in 0;" + BET + "a by 1;" + BET + "a by 1 or a before b;"
            + BET + "a by 2;");
        due.is("unlike in others alone", book.same(0, 1), -1);
        due.is("the least that's POSSIBLE", book.same(0, 2), row(2, 0));
    }

    static void promise20_rowsNoLongerLeftToo(Due due) {
        BettingBook book = Texts.book(TWO + BET + "a by 1;" + BET + "a by 2;");
        book.day(5);
        due.is("on DAY 5", book.same(0, 1), row(2, -1));
    }

    static void promise20_noneSuch(Due due) {
        BettingBook book = Texts.book(ONE);
        int[] none = {LEAST, -1, 1, 12, GREATEST};
        for (int w : none) {
            due.is("same(0, " + w + ")", book.same(0, w), -2);
            due.is("same(" + w + ", 0)", book.same(w, 0), -2);
            due.is("same(" + w + ", " + w + ")", book.same(w, w), -2);
        }
    }

    static void promise20_otherCoinsOrDouble(Due due) {
        BettingBook book = Texts.book(TWO + BET + "a comes;bet x 2 to 4 y that a comes;bet x 1 to 3 y that a comes;"
            + BET + "a comes double b comes;" + "bet y 2 to 3 x that a comes;");
        due.is("the second coin", book.same(0, 1), 1);
        due.is("the first coin", book.same(0, 2), 0);
        due.is("double", book.same(0, 3), row(-1, 0));
        due.is("other members", book.same(0, 4), -1);
    }
}
