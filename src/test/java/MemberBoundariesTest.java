/** Promises 21 to 32: a test for each sentence that names a boundary. */
final class MemberBoundariesTest {
    private static final int NO_COIN = -1000000;
    private static final long NO_WORTH = -1000000000000000L;
    private static final int LEAST = Integer.MIN_VALUE;
    private static final int GREATEST = Integer.MAX_VALUE;
    private static final String THREE = "thing r;member x;member y;member z;";
    private static final String SIX = "member a;member b;member c;member d;member e;member f;";
    private static final String BET = "bet x 2 to 3 y that ";
    private static final String EVEN = "bet x 1 to 1 y that ";
    private static final String HOLDS = "least 0 by 0";
    private static final String FAILS = "least 9 by 7";

    public static void main(String[] arguments) {
        Boundaries.runAll(MemberBoundariesTest.class, 21, 32);
    }

    // Promise 21: has

    static void promise21_noneSuch(Due due) {
        BettingBook book = Texts.book(THREE);
        int[] none = {LEAST, -1, 3, 6, GREATEST};
        for (int member : none) {
            due.is("has(" + member + ")", book.has(member), NO_COIN);
        }
        due.is("has(2)", book.has(2), 0);
    }

    static void promise21_sureOnesAlone(Due due) {
        BettingBook book = Texts.book(THREE + BET + "r by 2;" + BET + "r comes;");
        due.is("nothing is SURE", book.has(0), 0);
        book.day(3);
        due.is("one is SURE, side 0", book.has(0), -2);
        due.is("one is SURE, side 1", book.has(1), 2);
        due.is("in none", book.has(2), 0);
        book.come(0);
        due.is("both are SURE, side 0", book.has(0), 1);
        due.is("both are SURE, side 1", book.has(1), -1);
    }

    static void promise21_offAndDouble(Due due) {
        BettingBook book = Texts.book(THREE + BET + HOLDS + " off " + HOLDS + ";" + BET + HOLDS + " double " + HOLDS
            + ";" + BET + FAILS + " double " + HOLDS + ";");
        due.is("has(0)", book.has(0), 0 + 6 - 4);
        due.is("has(1)", book.has(1), 4 - 6);
    }

    static void promise21_soldAndBought(Due due) {
        BettingBook book = Texts.book(THREE + BET + "r comes;");
        book.sell(0, 0, 2, 10);
        due.is("who sold", book.has(0), 10);
        due.is("who bought", book.has(2), -10);
        due.is("the other side", book.has(1), 0);
        book.come(0);
        due.is("who sold, when it's SURE", book.has(0), 10);
        due.is("who bought, when it's SURE", book.has(2), -10 + 3);
        due.is("the other side, when it's SURE", book.has(1), -3);
    }

    static void promise21_paid(Due due) {
        BettingBook book = Texts.book(THREE);
        book.paid(0, 1, 30);
        book.paid(2, 0, 4);
        due.is("who paid and was paid", book.has(0), 26);
        due.is("who was paid", book.has(1), -30);
        due.is("who paid", book.has(2), 4);
    }

    static void promise21_bothSidesPayNothing(Due due) {
        BettingBook book = Texts.book(THREE + BET + "r comes;");
        book.sell(0, 1, 0, 0);
        book.come(0);
        due.is("who holds both", book.has(0), 0);
        due.is("who holds none", book.has(1), 0);
    }

    static void promise21_farAboveAMillion(Due due) {
        BettingBook book = Texts.book(THREE);
        for (int i = 0; i < 160; i++) {
            book.paid(0, 1, 9999);
        }
        due.is("has(0)", book.has(0), 160 * 9999);
        due.is("has(1)", book.has(1), -160 * 9999);
        due.is("has(2)", book.has(2), 0);
        due.is("settle()", book.settle(), 1);
        due.is("best(1)", book.best(1), 1);
    }

    // Promise 22: may

    static void promise22_noneSuch(Due due) {
        BettingBook book = Texts.book(THREE);
        int[] none = {LEAST, -1, 3, 6, GREATEST};
        for (int member : none) {
            due.is("may(" + member + ", 0)", book.may(member, 0), NO_COIN);
            due.is("may(" + member + ", 1)", book.may(member, 1), NO_COIN);
        }
    }

    static void promise22_noSuchWhat(Due due) {
        BettingBook book = Texts.book(THREE);
        int[] none = {LEAST, -1, 2, GREATEST};
        for (int what : none) {
            due.is("may(0, " + what + ")", book.may(0, what), NO_COIN);
        }
    }

    static void promise22_below0AndAbove0(Due due) {
        BettingBook book = Texts.book(THREE + BET + "r comes;");
        due.is("the least", book.may(0, 0), -2);
        due.is("the greatest", book.may(0, 1), 3);
        due.is("the least of side 1", book.may(1, 0), -3);
        due.is("the greatest of side 1", book.may(1, 1), 2);
        due.is("without sides", book.may(2, 0), 0);
    }

    static void promise22_allAbove0OrAllBelow0(Due due) {
        BettingBook book = Texts.book(THREE + BET + HOLDS + " double r comes;");
        due.is("the least of side 0", book.may(0, 0), 3);
        due.is("the greatest of side 0", book.may(0, 1), 6);
        due.is("the least of side 1", book.may(1, 0), -6);
        due.is("the greatest of side 1", book.may(1, 1), -3);
    }

    static void promise22_byRowsLeftAlone(Due due) {
        BettingBook book = Texts.book("thing s;" + THREE + "bars s r;" + BET
            + "r comes double r comes and s before r;");
        due.is("double isn't POSSIBLE", book.may(0, 1), 3);
        book.come(0);
        due.is("r may come TODAY", book.may(0, 1), 3);
        book.day(1);
        due.is("r is barred", book.may(0, 1), -2);
    }

    static void promise22_withOneRow(Due due) {
        BettingBook book = Texts.book(THREE + BET + "r comes;");
        book.come(0);
        due.is("the least", book.may(0, 0), 3);
        due.is("the greatest", book.may(0, 1), 3);
    }

    static void promise22_withWhatIsOwed(Due due) {
        BettingBook book = Texts.book(THREE + BET + "r comes;");
        book.paid(2, 0, 100);
        book.sell(0, 0, 1, 7);
        due.is("who sold and was paid", book.may(0, 1), -93);
        due.is("who holds both sides, the least", book.may(1, 0), -7);
        due.is("who holds both sides, the greatest", book.may(1, 1), -7);
        due.is("who paid", book.may(2, 0), 100);
    }

    // Promise 23: end

    static void promise23_noSuchMember(Due due) {
        BettingBook book = Texts.book(THREE);
        int[] none = {LEAST, -1, 3, 6, GREATEST};
        for (int member : none) {
            due.is("end(" + member + ", 0)", book.end(member, 0), NO_COIN);
        }
    }

    static void promise23_noSuchCode(Due due) {
        BettingBook book = Texts.book("thing s from 2 until 4;" + THREE + BET + "s comes;");
        int[] none = {LEAST, -1, 1, 2, 6, 8, 10, 81, GREATEST};
        for (int code : none) {
            due.is("end(0, " + code + ")", book.end(0, code), NO_COIN);
        }
        due.is("on from", book.end(0, 3), 3);
        due.is("on until", book.end(0, 5), 3);
        due.is("the last code that there is", book.end(0, 5 + 72), 3);
    }

    static void promise23_possibleOrNot(Due due) {
        BettingBook book = Texts.book("thing s;" + THREE + "bars s r;" + BET + "r comes;");
        due.is("in a ROW that isn't POSSIBLE", book.end(0, 1 + 9 * 2), 3);
        book.day(4);
        due.is("in a ROW that isn't LEFT", book.end(1, 9), -3);
        due.is("in a ROW that's LEFT", book.end(1, 0), 2);
    }

    static void promise23_allWagersNotSureOnesAlone(Due due) {
        BettingBook book = Texts.book(THREE + BET + "r by 3;" + BET + "r comes;" + BET + HOLDS + ";");
        due.is("never", book.end(0, 0), -2 - 2 + 3);
        due.is("on DAY 5", book.end(0, 6), -2 + 3 + 3);
        due.is("on DAY 3", book.end(0, 4), 9);
    }

    static void promise23_allTwelve(Due due) {
        String last = "bet x 500 to 700 y that r by 3 off r by 0 double r by 1 or r comes and not r by 6;";
        BettingBook book = Texts.book(THREE + (EVEN + "r comes;").repeat(11) + last);
        int[] coins = {-11 - 500, 11, 11 + 1400, 11 + 700, 11 + 700, 11 - 500, 11 - 500, 11 - 500, 11 - 1000};
        for (int code = 0; code < coins.length; code++) {
            due.is("end(0, " + code + ")", book.end(0, code), coins[code]);
            due.is("end(1, " + code + ")", book.end(1, code), -coins[code]);
        }
    }

    static void promise23_withWhatIsOwed(Due due) {
        BettingBook book = Texts.book(THREE + BET + "r comes;");
        book.sell(0, 1, 2, 20);
        book.paid(1, 0, 5);
        due.is("side 0, who was paid", book.end(0, 1), 3 - 5);
        due.is("who sold and paid", book.end(1, 1), 20 + 5);
        due.is("who bought", book.end(2, 1), -20 - 3);
    }

    // Promise 24: settle

    static void promise24_noMembers(Due due) {
        due.is("settle()", Texts.book("thing r;").settle(), 0);
    }

    static void promise24_nobodyHasAnything(Due due) {
        due.is("one MEMBER", Texts.book("member a;").settle(), 0);
        due.is("two MEMBERS", Texts.book("member a;member b;").settle(), 0);
        due.is("six MEMBERS", Texts.book(SIX).settle(), 0);
    }

    static void promise24_oneGroupOfAll(Due due) {
        BettingBook book = Texts.book(SIX);
        for (int member = 1; member < 6; member++) {
            book.paid(0, member, 20);
            due.is("settle() of " + (member + 1), book.settle(), member);
        }
    }

    static void promise24_pairs(Due due) {
        BettingBook book = Texts.book(SIX);
        book.paid(0, 5, 3);
        book.paid(4, 1, 3);
        book.paid(2, 3, 9);
        due.is("settle()", book.settle(), 3);
    }

    static void promise24_groupsOfThree(Due due) {
        BettingBook book = Texts.book(SIX);
        book.paid(0, 2, 2);
        book.paid(0, 4, 5);
        book.paid(1, 3, 30);
        book.paid(1, 5, 40);
        due.is("settle()", book.settle(), 4);
    }

    static void promise24_groupsHaveNobodyInCommon(Due due) {
        BettingBook book = Texts.book(SIX);
        book.paid(0, 1, 1);
        book.paid(0, 2, 1);
        book.paid(3, 1, 1);
        // 2, -2, -1, 1: one pair of 2 and -2, one of 1 and -1
        due.is("two pairs", book.settle(), 2);
        book.paid(4, 1, 1);
        // 2, -3, -1, 1, 1: 2 would go with -3 and 1, or 1 with -1
        due.is("three and a pair", book.settle(), 3);
    }

    static void promise24_whoHasNothingIsLeftOut(Due due) {
        BettingBook book = Texts.book(SIX);
        book.paid(1, 0, 4);
        book.paid(0, 2, 4);
        due.is("through another one", book.settle(), 1);
        book.paid(2, 1, 4);
        due.is("all around", book.settle(), 0);
    }

    static void promise24_sureOnesAlone(Due due) {
        BettingBook book = Texts.book(THREE + BET + "r by 0;");
        due.is("while it's open", book.settle(), 0);
        book.day(1);
        due.is("when it's SURE", book.settle(), 1);
    }

    // Promise 25: best

    static void promise25_noMembers(Due due) {
        BettingBook book = Texts.book("thing r;");
        due.is("best(0)", book.best(0), -1);
        due.is("best(1)", book.best(1), -1);
    }

    static void promise25_noneSuch(Due due) {
        BettingBook book = Texts.book(SIX);
        int[] none = {LEAST, -1, 2, GREATEST};
        for (int what : none) {
            due.is("best(" + what + ")", book.best(what), -1);
        }
    }

    static void promise25_theLeastOfSeveral(Due due) {
        BettingBook book = Texts.book(SIX);
        due.is("most, all alike", book.best(0), 0);
        due.is("least, all alike", book.best(1), 0);
        book.paid(1, 3, 5);
        book.paid(4, 5, 5);
        due.is("most of 1 and 4", book.best(0), 1);
        due.is("least of 3 and 5", book.best(1), 3);
    }

    static void promise25_theFirstAndTheLast(Due due) {
        BettingBook book = Texts.book(SIX);
        book.paid(5, 0, 1);
        due.is("most", book.best(0), 5);
        due.is("least", book.best(1), 0);
        book.paid(0, 5, 2);
        due.is("most then", book.best(0), 0);
        due.is("least then", book.best(1), 5);
    }

    static void promise25_oneMember(Due due) {
        BettingBook book = Texts.book("member a;");
        due.is("best(0)", book.best(0), 0);
        due.is("best(1)", book.best(1), 0);
    }

    // Promise 26: win

    static void promise26_noWagersTaken(Due due) {
        BettingBook book = Texts.book(THREE + BET + "r comes off not r comes;");
        due.is("win(0, 0)", book.win(0, 0), -1);
        due.is("win(0, 1)", book.win(0, 1), -1);
        due.is("win(1, 0)", book.win(1, 0), 1);
        due.is("win(1, 1)", book.win(1, 1), 2);
    }

    static void promise26_noSuchWager(Due due) {
        BettingBook book = Texts.book(THREE + BET + "r comes off not r comes;");
        int[] none = {LEAST, -1, 2, 3, 4097, GREATEST};
        for (int wagers : none) {
            due.is("win(" + wagers + ", 0)", book.win(wagers, 0), -1);
            due.is("win(" + wagers + ", 1)", book.win(wagers, 1), -1);
        }
        BettingBook twelve = Texts.book(THREE + (EVEN + "r comes;").repeat(11) + BET + "r comes off not r comes;");
        due.is("the twelfth", twelve.win(2048, 0), 1);
        due.is("the thirteenth", twelve.win(4096, 0), -1);
        due.is("the twelfth and the thirteenth", twelve.win(6144, 0), -1);
    }

    static void promise26_noSuchWhat(Due due) {
        BettingBook book = Texts.book(THREE + BET + "r comes off not r comes;");
        int[] none = {LEAST, -1, 2, GREATEST};
        for (int what : none) {
            due.is("win(1, " + what + ")", book.win(1, what), -1);
        }
    }

    static void promise26_noneIsLeft(Due due) {
        BettingBook book = Texts.book(THREE + BET + HOLDS + ";" + BET + "r by 0 off not r comes;");
        due.is("a SURE one alone", book.win(1, 0), -1);
        due.is("a SURE one and an open one", book.win(3, 0), -1);
        book.come(0);
        due.is("the open one is SURE now", book.win(3, 0), -1);
        due.is("its coin", book.win(3, 1), -1);
    }

    static void promise26_moreThan6AreLeft(Due due) {
        String open = EVEN + "r comes off not r comes;";
        BettingBook book = Texts.book(THREE + open.repeat(7) + BET + HOLDS + ";");
        due.is("seven", book.win(127, 0), -1);
        due.is("seven, coin", book.win(127, 1), -1);
        due.is("seven and a SURE one", book.win(255, 0), -1);
        due.is("six", book.win(63, 0), 1);
        due.is("six others", book.win(126, 0), 1);
        due.is("six and a SURE one", book.win(254, 0), 1);
        due.is("six and a SURE one, coin", book.win(254, 1), 1);
        due.is("seven, asked behind six", book.win(127, 0), -1);
    }

    static void promise26_sureOnesAreLeftOutOfThePlaces(Due due) {
        BettingBook book = Texts.book(THREE + EVEN + "r comes;" + BET + HOLDS + ";" + EVEN + "r by 3;");
        due.is("side 1 of the first, side 0 of the last would be 2 + 3", book.win(7, 0), 1 + 3 * 2);
        BettingBook last = Texts.book(THREE + BET + HOLDS + ";" + BET + HOLDS + ";"
            + EVEN + "r comes off not r comes;");
        due.is("the last one is the first of those left", last.win(7, 0), 1);
    }

    static void promise26_always0IsNoWin(Due due) {
        BettingBook book = Texts.book(THREE + EVEN + "r comes;" + EVEN + "r by 7;");
        due.is("win(3, 0)", book.win(3, 0), -1);
        due.is("win(3, 1)", book.win(3, 1), -1);
    }

    static void promise26_moreInOneRowIsEnough(Due due) {
        BettingBook book = Texts.book(THREE + EVEN + "r by 7;" + EVEN + "r by 6;");
        due.is("on DAY 7 alone", book.win(3, 0), 1 + 3 * 2);
        due.is("coin", book.win(3, 1), 2);
    }

    static void promise26_lessInOneRowIsTooMuch(Due due) {
        BettingBook book = Texts.book(THREE + "bet x 1 to 9 y that not r by 7 or r by 6;");
        due.is("on DAY 7 alone", book.win(1, 0), -1);
        BettingBook first = Texts.book(THREE + "bet x 1 to 9 y that r comes;");
        due.is("never alone", first.win(1, 0), -1);
    }

    static void promise26_rowsLeftAlone(Due due) {
        BettingBook book = Texts.book(THREE + EVEN + "not r comes off r comes and not r by 0;");
        due.is("on DAY 0 it may be lost", book.win(1, 0), -1);
        book.image();
        book.day(1);
        due.is("on DAY 1 it can't", book.win(1, 0), 1);
        due.is("coin", book.win(1, 1), 1);
        book.back(0);
        due.is("and on DAY 0 again", book.win(1, 0), -1);
    }

    static void promise26_possibleRowsAlone(Due due) {
        BettingBook book = Texts.book("thing s;" + THREE + "bars s r;" + EVEN + "not s before r off not r comes;");
        due.is("where r comes, s before r isn't POSSIBLE", book.win(1, 0), 1);
        BettingBook two = Texts.book("thing s;" + THREE + "brings s r in 0;" + EVEN + "s by 3;" + EVEN + "r by 3;");
        due.is("s brings r", two.win(3, 0), 2 + 3);
    }

    static void promise26_theLeastCoin(Due due) {
        BettingBook book = Texts.book(THREE + "bet x 5 to 9 y that r comes off not r comes;"
            + "bet x 4 to 1 y that r comes off not r comes;bet x 9 to 3 y that not r comes off not r comes;");
        due.is("4 of 5, 4 and 3", book.win(3, 0), 3);
        due.is("coin", book.win(3, 1), 4);
        due.is("the second's own COIN, 3", book.win(7, 0), 18);
        due.is("coin of all", book.win(7, 1), 3);
    }

    static void promise26_ofSeveralTheLeastCode(Due due) {
        String open = "bet x 3 to 1 y that r comes off not r comes;";
        BettingBook book = Texts.book(THREE + open + open + "bet x 1 to 3 y that not r comes off not r comes;");
        due.is("the first", book.win(7, 0), 1);
        due.is("of the last two", book.win(6, 0), 1);
        due.is("the last", book.win(4, 0), 2);
        due.is("coin", book.win(7, 1), 3);
    }

    static void promise26_coinOnceThoughDouble(Due due) {
        BettingBook book = Texts.book(THREE + "bet x 5 to 9 y that r comes off not r comes double r comes;");
        due.is("coin", book.win(1, 1), 5);
    }

    static void promise26_doubleCountsTwice(Due due) {
        BettingBook book = Texts.book(THREE + "bet x 2 to 3 y that r comes double not r comes;"
            + "bet x 4 to 3 y that r comes;");
        // side 0 of the first: 3 or -4; side 1 of the second: -3 or 4
        due.is("even", book.win(3, 0), -1);
        BettingBook more = Texts.book(THREE + "bet x 2 to 3 y that r comes double r comes;"
            + "bet x 4 to 3 y that r comes;");
        // side 0 of the first: 6 or -2; side 1 of the second: -3 or 4
        due.is("more", more.win(3, 0), 1 + 3 * 2);
        due.is("coin", more.win(3, 1), 2 + 3);
    }

    // Promise 27: worth

    static void promise27_notWhole(Due due) {
        BettingBook book = Texts.book("thing s;" + THREE + BET + "r comes;");
        due.is("all are 0", book.worth(0, 0), NO_WORTH);
        book.chance(0, 0, 100);
        due.is("one of two THINGS", book.worth(0, 0), NO_WORTH);
        book.chance(1, 0, 99);
        due.is("99", book.worth(0, 1), NO_WORTH);
        book.chance(1, -1, 1);
        due.is("99 by 3, 1 by -2, upper", book.worth(0, 0), (99 * 3 - 2) / 5);
        due.is("99 by 3, 1 by -2, lower", book.worth(0, 1), 100 / 5);
        book.chance(1, 7, 1);
        due.is("101", book.worth(0, 0), NO_WORTH);
    }

    static void promise27_allWeightsAre0(Due due) {
        BettingBook book = Texts.book("thing s from 1;" + THREE + BET + "r comes;");
        book.chance(0, 0, 100);
        book.chance(1, 3, 100);
        due.is("on a DAY ahead of from", book.worth(0, 0), NO_WORTH);
        book.chance(0, 0, 0);
        book.chance(0, 1, 100);
        due.is("on from", book.worth(0, 0), 3);
        book.day(2);
        due.is("ahead of TODAY", book.worth(0, 1), NO_WORTH);
    }

    static void promise27_noneSuch(Due due) {
        BettingBook book = Texts.book(THREE + BET + "r comes;");
        book.chance(0, 0, 100);
        int[] wagers = {LEAST, -1, 1, 12, GREATEST};
        for (int w : wagers) {
            due.is("worth(" + w + ", 0)", book.worth(w, 0), NO_WORTH);
        }
        int[] whats = {LEAST, -1, 2, GREATEST};
        for (int what : whats) {
            due.is("worth(0, " + what + ")", book.worth(0, what), NO_WORTH);
        }
    }

    static void promise27_lowestTerms(Due due) {
        BettingBook book = Texts.book(THREE + "bet x 2 to 4 y that r comes;" + EVEN + "r comes;");
        book.chance(0, 0, 50);
        book.chance(0, -1, 50);
        due.is("1, upper", book.worth(0, 0), 1);
        due.is("1, lower", book.worth(0, 1), 1);
        due.is("0, upper", book.worth(1, 0), 0);
        due.is("0, lower", book.worth(1, 1), 1);
        book.chance(0, 0, 25);
        book.chance(0, -1, 75);
        due.is("-1 by 2, upper", book.worth(0, 0), -1);
        due.is("-1 by 2, lower", book.worth(0, 1), 2);
    }

    static void promise27_rowsLeftAlone(Due due) {
        BettingBook book = Texts.book(THREE + BET + "r comes;");
        book.chance(0, 0, 50);
        book.chance(0, 4, 20);
        book.chance(0, -1, 30);
        due.is("70 by 3, 30 by -2, upper", book.worth(0, 0), 3);
        due.is("70 by 3, 30 by -2, lower", book.worth(0, 1), 2);
        book.day(1);
        due.is("20 by 3, 30 by -2", book.worth(0, 0), 0);
        book.day(5);
        due.is("30 by -2, upper", book.worth(0, 0), -2);
        due.is("30 by -2, lower", book.worth(0, 1), 1);
    }

    static void promise27_possibleRowsAlone(Due due) {
        BettingBook book = Texts.book("thing s;" + THREE + "bars s r;" + BET + "r comes;");
        book.chance(0, 2, 50);
        book.chance(0, -1, 50);
        book.chance(1, 3, 40);
        book.chance(1, -1, 60);
        // s and r: 50 * 40 barred; r alone: 50 * 40; s alone: 50 * 60; neither: 50 * 60
        due.is("upper", book.worth(0, 0), (2000 * 3 - 6000 * 2) / 2000);
        due.is("lower", book.worth(0, 1), 8000 / 2000);
    }

    static void promise27_theGreatestNumbers(Due due) {
        BettingBook book = Texts.book("thing p;thing q;thing s;thing t;" + THREE
            + "bet x 999 to 997 y that p comes double " + HOLDS + ";");
        for (int thing = 0; thing < 5; thing++) {
            book.chance(thing, -1, 1);
            book.chance(thing, 0, 99);
        }
        due.is("upper", book.worth(0, 0), (99 * 997 - 999) * 2 / 4);
        due.is("lower", book.worth(0, 1), 100 / 4);
    }

    static void promise27_noThings(Due due) {
        BettingBook book = Texts.book("member x;member y;" + BET + HOLDS + ";" + BET + HOLDS + " off " + HOLDS + ";");
        due.is("upper", book.worth(0, 0), 3);
        due.is("lower", book.worth(0, 1), 1);
        due.is("0, upper", book.worth(1, 0), 0);
        due.is("0, lower", book.worth(1, 1), 1);
    }

    // Promise 28: holds

    static void promise28_noneSuch(Due due) {
        BettingBook book = Texts.book(THREE + BET + "r comes;");
        book.chance(0, 0, 100);
        int[] members = {LEAST, -1, 3, 6, GREATEST};
        for (int member : members) {
            due.is("holds(" + member + ", 0)", book.holds(member, 0), NO_WORTH);
        }
        int[] whats = {LEAST, -1, 2, GREATEST};
        for (int what : whats) {
            due.is("holds(0, " + what + ")", book.holds(0, what), NO_WORTH);
        }
    }

    static void promise28_notWhole(Due due) {
        BettingBook book = Texts.book(THREE + BET + "r comes;");
        book.chance(0, 0, 99);
        due.is("with sides", book.holds(0, 0), NO_WORTH);
        due.is("without sides", book.holds(2, 1), NO_WORTH);
    }

    static void promise28_allWeightsAre0(Due due) {
        BettingBook book = Texts.book(THREE + BET + "r comes;");
        book.chance(0, 0, 100);
        due.is("TODAY", book.holds(0, 0), 3);
        book.day(1);
        due.is("with sides", book.holds(0, 0), NO_WORTH);
        due.is("without sides", book.holds(2, 1), NO_WORTH);
    }

    static void promise28_withoutSides(Due due) {
        BettingBook book = Texts.book(THREE + BET + "r comes;");
        book.chance(0, 0, 100);
        due.is("upper", book.holds(2, 0), 0);
        due.is("lower", book.holds(2, 1), 1);
    }

    static void promise28_bothSides(Due due) {
        BettingBook book = Texts.book(THREE + BET + "r comes;");
        book.chance(0, 0, 50);
        book.chance(0, -1, 50);
        due.is("side 0, upper", book.holds(0, 0), 1);
        due.is("side 0, lower", book.holds(0, 1), 2);
        due.is("side 1, upper", book.holds(1, 0), -1);
        due.is("side 1, lower", book.holds(1, 1), 2);
        book.sell(0, 1, 0, 0);
        due.is("both, upper", book.holds(0, 0), 0);
        due.is("both, lower", book.holds(0, 1), 1);
    }

    static void promise28_sidesAloneNotWhatIsOwed(Due due) {
        BettingBook book = Texts.book(THREE + BET + "r comes;" + BET + HOLDS + ";");
        book.chance(0, 0, 100);
        book.sell(0, 0, 2, 50);
        book.paid(1, 2, 7);
        due.is("who sold one and holds a SURE one", book.holds(0, 0), 3);
        due.is("the other side of both", book.holds(1, 0), -6);
        due.is("who bought", book.holds(2, 0), 3);
    }

    // Promise 29: luck

    static void promise29_moreThanOneRowIsLeft(Due due) {
        BettingBook book = Texts.book("thing r until 0;member x;member y;" + BET + "r comes;");
        due.is("two, luck(0, 0)", book.luck(0, 0), -1);
        due.is("two, luck(0, 1)", book.luck(0, 1), -1);
        book.day(1);
        due.is("one, luck(0, 0)", book.luck(0, 0), 2);
        due.is("one, luck(0, 1)", book.luck(0, 1), 2);
    }

    static void promise29_noneSuch(Due due) {
        BettingBook book = Texts.book("member x;member y;");
        int[] members = {LEAST, -1, 2, 6, GREATEST};
        for (int member : members) {
            due.is("luck(" + member + ", 0)", book.luck(member, 0), -1);
            due.is("luck(" + member + ", 1)", book.luck(member, 1), -1);
        }
        int[] whats = {LEAST, -1, 2, GREATEST};
        for (int what : whats) {
            due.is("luck(0, " + what + ")", book.luck(0, what), -1);
        }
        due.is("luck(1, 0)", book.luck(1, 0), 1);
    }

    static void promise29_atLeastThatInIt(Due due) {
        BettingBook book = Texts.book("thing r;member x;member y;bet x 2 to 3 y that r by 3 off r by 0 double r by 1;");
        // never -2, on DAY 0: 0, 1: 6, 2 and 3: 3, later: -2
        book.day(2);
        book.image();
        book.come(0);
        due.is("3: on 1, 2 and 3", book.luck(0, 0), 3);
        due.is("-3: all but on 1", book.luck(1, 0), 8);
        book.back(0);
        book.day(4);
        book.come(0);
        due.is("-2: all", book.luck(0, 0), 9);
        due.is("2: never and on 4 to 7", book.luck(1, 0), 5);
    }

    static void promise29_possibleRowsNotThoseLeftAlone(Due due) {
        BettingBook book = Texts.book("thing s;thing r;member x;member y;bars s r;" + BET + "r comes;");
        book.come(1);
        book.come(0);
        due.is("POSSIBLE", book.luck(0, 1), 53);
        // r never: 9; else r on 0 to 7 with s never or on that DAY or behind it: 8 + 36
        due.is("won in", book.luck(0, 0), 44);
        due.is("lost in all", book.luck(1, 0), 53);
    }

    static void promise29_whatIsOwedIsAlikeInAll(Due due) {
        BettingBook book = Texts.book("thing r until 0;member x;member y;" + BET + "r comes;");
        book.paid(0, 1, 50);
        book.come(0);
        due.is("luck(0, 0)", book.luck(0, 0), 1);
        due.is("luck(1, 0)", book.luck(1, 0), 2);
    }

    // Promise 30: image

    static void promise30_numbersFrom0(Due due) {
        BettingBook book = new BettingBook();
        for (int i = 0; i < 4; i++) {
            due.is("image " + i, book.image(), i);
            due.is("count(4)", book.count(4), i + 1);
        }
    }

    static void promise30_fourAreThere(Due due) {
        BettingBook book = Texts.book(THREE);
        for (int i = 0; i < 4; i++) {
            book.day(i + 1);
            book.image();
        }
        book.day(6);
        due.is("the fifth", book.image(), -1);
        due.is("the sixth", book.image(), -1);
        due.is("count(4)", book.count(4), 4);
        due.is("back(3)", book.back(3), true);
        due.is("TODAY as in the fourth", book.count(1), 4);
    }

    static void promise30_laterCallsDontChangeIt(Due due) {
        BettingBook book = Texts.book(THREE + BET + "r comes;");
        book.image();
        book.paid(0, 1, 5);
        book.sell(0, 0, 2, 6);
        book.day(3);
        book.come(0);
        book.back(0);
        book.paid(0, 1, 70);
        book.back(0);
        due.is("has(0)", book.has(0), 0);
        due.is("wager(0, 0)", book.wager(0, 0), 0);
        due.is("count(1)", book.count(1), 0);
        due.is("count(2)", book.count(2), 0);
        due.is("count(8)", book.count(8), 0);
    }

    // Promise 31: back

    static void promise31_noneSuch(Due due) {
        BettingBook book = Texts.book(THREE);
        due.is("back(0) with none", book.back(0), false);
        book.image();
        book.image();
        book.day(2);
        int[] none = {LEAST, -1, 2, 3, 4, GREATEST};
        for (int image : none) {
            due.is("back(" + image + ")", book.back(image), false);
        }
        due.is("nothing was done", book.count(1), 2);
        due.is("back(1)", book.back(1), true);
        due.is("back(0)", book.back(0), true);
    }

    static void promise31_today(Due due) {
        BettingBook book = Texts.book(THREE + BET + "r by 2;");
        book.day(1);
        book.image();
        book.day(4);
        book.back(0);
        due.is("count(1)", book.count(1), 1);
        due.is("rows(-1)", book.rows(-1), 8);
        due.is("count(5)", book.count(5), 0);
        due.is("day(2)", book.day(2), 7);
    }

    static void promise31_whatCame(Due due) {
        BettingBook book = Texts.book("thing s;" + THREE);
        book.day(1);
        book.come(0);
        book.image();
        book.day(2);
        book.come(1);
        book.back(0);
        due.is("count(2)", book.count(2), 1);
        due.is("rows(0)", book.rows(0), 2);
        due.is("come(0)", book.come(0), -1);
        due.is("come(1)", book.come(1), 1);
    }

    static void promise31_whoHoldsWhatAndWhatWasSold(Due due) {
        BettingBook book = Texts.book(THREE + BET + "r comes;");
        book.sell(0, 0, 2, 10);
        book.image();
        book.sell(0, 0, 1, 20);
        book.sell(0, 1, 0, 30);
        book.back(0);
        due.is("side 0", book.wager(0, 0), 2);
        due.is("side 1", book.wager(0, 1), 1);
        due.is("has(0)", book.has(0), 10);
        due.is("has(1)", book.has(1), 0);
        due.is("has(2)", book.has(2), -10);
        due.is("count(8)", book.count(8), 1);
    }

    static void promise31_whatWasPaid(Due due) {
        BettingBook book = Texts.book(THREE);
        book.paid(0, 1, 10);
        book.image();
        book.paid(0, 2, 20);
        book.back(0);
        due.is("has(0)", book.has(0), 10);
        due.is("has(1)", book.has(1), -10);
        due.is("has(2)", book.has(2), 0);
    }

    static void promise31_forthAndBack(Due due) {
        BettingBook book = Texts.book(THREE);
        book.image();
        book.day(3);
        book.come(0);
        book.image();
        due.is("back(0)", book.back(0), true);
        due.is("count(2)", book.count(2), 0);
        due.is("back(1)", book.back(1), true);
        due.is("count(2) then", book.count(2), 1);
        due.is("count(4)", book.count(4), 2);
    }

    static void promise31_whatIsntInAnImageStays(Due due) {
        BettingBook book = Texts.book(THREE);
        book.image();
        book.chance(0, 0, 100);
        Texts.feed(book, "thing q;");
        book.back(0);
        due.is("CHANCES", book.count(7), 1);
        due.is("the tape", book.count(3), 20);
        due.is("BOOKS taken", book.count(0), 1);
        due.is("IMAGES", book.count(4), 1);
    }

    static void promise31_notInAnotherBook(Due due) {
        BettingBook book = Texts.book(THREE);
        book.image();
        Texts.tell(book, "thing");
        due.is("after a FAULT", book.back(0), true);
        Texts.tell(book, THREE);
        due.is("after a BOOK", book.back(0), false);
    }

    // Promise 32: count

    static void promise32_noOthers(Due due) {
        BettingBook book = Texts.book(THREE);
        int[] none = {LEAST, -1, 9, 10, 100, GREATEST};
        for (int what : none) {
            due.is("count(" + what + ")", book.count(what), -1);
        }
    }

    static void promise32_booksTaken(Due due) {
        BettingBook book = new BettingBook();
        due.is("none", book.count(0), 0);
        book.book(0);
        due.is("an empty one", book.count(0), 1);
        Texts.tell(book, "thing");
        due.is("a FAULT isn't one", book.count(0), 1);
        book.book(1);
        due.is("-2 isn't one", book.count(0), 1);
        Texts.tell(book, "thing q;");
        due.is("two", book.count(0), 2);
    }

    static void promise32_today(Due due) {
        BettingBook book = new BettingBook();
        due.is("at first", book.count(1), 0);
        book.day(7);
        due.is("on DAY 7", book.count(1), 7);
    }

    static void promise32_thingsThatCame(Due due) {
        BettingBook book = Texts.book("thing a;thing b;thing c;thing d;thing e;");
        due.is("none", book.count(2), 0);
        book.come(4);
        due.is("the last", book.count(2), 16);
        book.day(1);
        book.come(0);
        due.is("the last and the first", book.count(2), 17);
        book.come(1);
        book.come(2);
        book.come(3);
        due.is("all", book.count(2), 31);
    }

    static void promise32_bytesOnTheTape(Due due) {
        BettingBook book = new BettingBook();
        due.is("none", book.count(3), 0);
        Texts.feed(book, "x");
        due.is("twenty", book.count(3), 20);
        Texts.feed(book, " ".repeat(1180));
        due.is("all", book.count(3), 1200);
    }

    static void promise32_images(Due due) {
        BettingBook book = new BettingBook();
        due.is("none", book.count(4), 0);
        for (int i = 0; i < 6; i++) {
            book.image();
        }
        due.is("four", book.count(4), 4);
    }

    static void promise32_sureWagers(Due due) {
        BettingBook book = Texts.book(THREE + (EVEN + HOLDS + ";").repeat(11) + EVEN + "r comes;");
        due.is("all but one", book.count(5), 11);
        book.day(7);
        due.is("on DAY 7", book.count(5), 11);
        book.come(0);
        due.is("all", book.count(5), 12);
        due.is("no WAGERS", new BettingBook().count(5), 0);
    }

    static void promise32_possibleRows(Due due) {
        BettingBook book = Texts.book("thing s;thing r;bars s r;");
        due.is("count(6)", book.count(6), 53);
        book.day(7);
        book.come(0);
        due.is("not those LEFT alone", book.count(6), 53);
        due.is("five THINGS", Texts.book("thing a;thing b;thing c;thing d;thing e;").count(6), 59049);
    }

    static void promise32_wholeChances(Due due) {
        due.is("without THINGS", new BettingBook().count(7), 1);
        BettingBook book = Texts.book("thing s;thing r;");
        book.chance(0, 0, 100);
        due.is("one THING of two", book.count(7), 0);
        book.chance(1, -1, 99);
        due.is("99", book.count(7), 0);
        book.chance(1, 7, 2);
        due.is("101", book.count(7), 0);
        book.chance(1, 7, 1);
        due.is("100", book.count(7), 1);
    }

    static void promise32_sidesSold(Due due) {
        BettingBook book = Texts.book(THREE + BET + "r comes;");
        due.is("none", book.count(8), 0);
        book.sell(0, 0, 0, 1);
        due.is("not when refused", book.count(8), 0);
        book.sell(0, 0, 2, 1);
        book.sell(0, 1, 2, 1);
        due.is("two", book.count(8), 2);
        book.paid(0, 1, 5);
        due.is("not what was PAID", book.count(8), 2);
    }
}
