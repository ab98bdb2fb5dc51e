/** Promises 21 to 29: what MEMBERS have, WIN, CHANCES and LUCK. */
final class MemberPromisesTest {
    private static final Due DUE = new Due();
    private static final int NO_COIN = -1000000;
    private static final long NO_WORTH = -1000000000000000L;

    /** Never -2, day 0 off, day 1 double 6, days 2 and 3 won 3, later -2. */
    private static final String ONE =
        "thing r;member a;member b;bet a 2 to 3 b that r by 3 off r by 0 double r by 1;";
    private static final String SIX = "member a;member b;member c;member d;member e;member f;";

    public static void main(String[] arguments) {
        has();
        may();
        end();
        settle();
        best();
        win();
        winOfSeveral();
        winAsDaysGo();
        worth();
        worthIsGone();
        holds();
        luck();
        DUE.end();
    }

    private static void has() {
        BettingBook book = Texts.book("thing r;member a;member b;member c;bet a 10 to 20 b that r by 2;"
            + "bet b 5 to 7 c that r by 4;");
        DUE.is("nothing sure", book.has(0), 0);
        DUE.is("has(3)", book.has(3), NO_COIN);
        DUE.is("has(-1)", book.has(-1), NO_COIN);
        book.sell(1, 0, 0, 3);
        book.paid(2, 1, 4);
        DUE.is("bought", book.has(0), -3);
        DUE.is("sold and was paid", book.has(1), 3 - 4);
        DUE.is("paid", book.has(2), 4);
        book.day(3);
        DUE.is("lost", book.has(0), -3 - 10);
        DUE.is("won", book.has(1), -1 + 10);
        DUE.is("not in it", book.has(2), 4);
        book.come(0);
        DUE.is("won the side bought", book.has(0), -13 + 7);
        DUE.is("no longer in it", book.has(1), 9);
        DUE.is("lost as side 1", book.has(2), 4 - 7);
    }

    private static void may() {
        BettingBook book = Texts.book(ONE + "bet b 1 to 1 a that r comes;member c;");
        DUE.is("least of a", book.may(0, 0), -3);
        DUE.is("greatest of a", book.may(0, 1), 5);
        DUE.is("least of b", book.may(1, 0), -5);
        DUE.is("greatest of b", book.may(1, 1), 3);
        DUE.is("least of c", book.may(2, 0), 0);
        DUE.is("greatest of c", book.may(2, 1), 0);
        DUE.is("may(0, 2)", book.may(0, 2), NO_COIN);
        DUE.is("may(0, -1)", book.may(0, -1), NO_COIN);
        DUE.is("may(3, 0)", book.may(3, 0), NO_COIN);
        DUE.is("may(-1, 0)", book.may(-1, 0), NO_COIN);
        book.paid(0, 1, 100);
        book.day(2);
        DUE.is("least of a on day 2", book.may(0, 0), 97);
        DUE.is("greatest of a on day 2", book.may(0, 1), 102);
        book.sell(0, 0, 1, 10);
        DUE.is("least of b, who holds both sides", book.may(1, 0), -111);
        DUE.is("greatest of b", book.may(1, 1), -109);
    }

    private static void end() {
        BettingBook book = Texts.book(ONE + "thing s from 3;bars r s;");
        int[] due = {-2, 0, 6, 3, 3, -2, -2, -2, -2};
        for (int code = 0; code < 9; code++) {
            DUE.is("end(0, " + code + ")", book.end(0, code), due[code]);
            DUE.is("end(1, " + code + ")", book.end(1, code), -due[code]);
        }
        DUE.is("in a row not possible", book.end(0, 2 + 9 * 8), 6);
        DUE.is("end(0, 9), ahead of from", book.end(0, 9), NO_COIN);
        DUE.is("end(0, 81)", book.end(0, 81), NO_COIN);
        DUE.is("end(0, -1)", book.end(0, -1), NO_COIN);
        DUE.is("end(2, 0)", book.end(2, 0), NO_COIN);
        DUE.is("end(-1, 0)", book.end(-1, 0), NO_COIN);
        book.sell(0, 1, 0, 7);
        book.paid(1, 0, 2);
        DUE.is("with both sides and debts", book.end(0, 2), -9);
        DUE.is("without sides", book.end(1, 2), 9);
    }

    private static void settle() {
        BettingBook book = Texts.book(SIX);
        DUE.is("nobody owes", book.settle(), 0);
        book.paid(0, 1, 5);
        DUE.is("one owes one", book.settle(), 1);
        book.paid(2, 3, 3);
        DUE.is("two pairs", book.settle(), 2);
        book.paid(4, 5, 2);
        DUE.is("three pairs", book.settle(), 3);
        book.paid(5, 3, 2);
        DUE.is("a pair and three", book.settle(), 3);
        book.paid(1, 3, 5);
        DUE.is("four in one", book.settle(), 3);
        BettingBook ring = Texts.book(SIX);
        ring.paid(0, 1, 4);
        ring.paid(1, 2, 4);
        DUE.is("through another one", ring.settle(), 1);
        ring.paid(2, 0, 4);
        DUE.is("all around", ring.settle(), 0);
        BettingBook groups = Texts.book(SIX);
        groups.paid(0, 3, 6);
        groups.paid(1, 3, 1);
        groups.paid(1, 4, 4);
        groups.paid(2, 5, 9);
        DUE.is("6 5 9 against 7 4 9", groups.settle(), 4);
        groups.paid(0, 4, 1);
        DUE.is("7 5 9 against 7 5 9", groups.settle(), 3);
        BettingBook sure = Texts.book("member a;member b;bet a 2 to 3 b that least 0 by 0;");
        DUE.is("by a sure wager", sure.settle(), 1);
    }

    private static void best() {
        BettingBook book = Texts.book(SIX);
        DUE.is("most of all alike", book.best(0), 0);
        DUE.is("least of all alike", book.best(1), 0);
        book.paid(3, 2, 5);
        book.paid(4, 5, 5);
        DUE.is("most", book.best(0), 3);
        DUE.is("least", book.best(1), 2);
        DUE.is("best(2)", book.best(2), -1);
        DUE.is("best(-1)", book.best(-1), -1);
        book.paid(4, 5, 1);
        DUE.is("most of unlike ones", book.best(0), 4);
        DUE.is("least of unlike ones", book.best(1), 5);
        DUE.is("no members", Texts.book("thing a;").best(0), -1);
        DUE.is("no members", Texts.book("thing a;").best(1), -1);
    }

    private static void win() {
        String bet = "bet a 2 to 3 b that ";
        BettingBook book = Texts.book("thing r;member a;member b;" + bet + "r comes;" + bet + "not r comes;"
            + "bet a 3 to 3 b that r comes off not r comes;");
        DUE.is("both", book.win(3, 0), 4);
        DUE.is("both, coin", book.win(3, 1), 4);
        DUE.is("one alone", book.win(1, 0), -1);
        DUE.is("one alone, coin", book.win(1, 1), -1);
        DUE.is("off or won", book.win(4, 0), 1);
        DUE.is("off or won, coin", book.win(4, 1), 3);
        DUE.is("the least coin", book.win(7, 1), 3);
        DUE.is("the least coin's code", book.win(7, 0), 9);
        DUE.is("by place, not by number", book.win(5, 0), 3);
        DUE.is("none taken", book.win(0, 0), -1);
        DUE.is("one not told", book.win(8, 0), -1);
        DUE.is("some not told", book.win(11, 0), -1);
        DUE.is("win(-1, 0)", book.win(-1, 0), -1);
        DUE.is("win(3, 2)", book.win(3, 2), -1);
        DUE.is("win(3, -1)", book.win(3, -1), -1);
        DUE.is("win in a book without", Texts.book("thing r;").win(1, 0), -1);
    }

    private static void winOfSeveral() {
        String bet = "bet a 1 to 1 b that ";
        BettingBook even = Texts.book("thing r;member a;member b;" + bet + "r comes;" + bet + "r comes;");
        DUE.is("always 0 is no win", even.win(3, 0), -1);
        BettingBook sometimes = Texts.book("thing r;member a;member b;" + bet + "r comes;" + bet + "r by 3;");
        DUE.is("0 or more", sometimes.win(3, 0), 7);
        DUE.is("0 or more, coin", sometimes.win(3, 1), 2);
        BettingBook doubled = Texts.book("thing r;member a;member b;bet a 1 to 9 b that r comes double r comes;"
            + "bet a 5 to 2 b that r comes;");
        DUE.is("side 0 of one, 1 of the other", doubled.win(3, 0), 7);
        DUE.is("own coins, once", doubled.win(3, 1), 3);
        BettingBook alike = Texts.book("thing r;member a;member b;" + bet + "r comes;" + bet + "r by 3;"
            + bet + "r by 3;" + bet + "r comes;");
        DUE.is("of several the least code", alike.win(15, 0), 7);
        DUE.is("of the later ones", alike.win(14, 0), 2 + 9);
        BettingBook seven = Texts.book("thing r;member a;member b;" + (bet + "r comes;").repeat(6) + bet + "r by 3;"
            + bet + "least 0 by 0;");
        DUE.is("seven", seven.win(127, 0), -1);
        DUE.is("seven, coin", seven.win(127, 1), -1);
        DUE.is("six", seven.win(126, 0), 1 + 2 * 243);
        DUE.is("six and a sure one", seven.win(254, 0), 1 + 2 * 243);
        DUE.is("six and a sure one, coin", seven.win(254, 1), 2);
        DUE.is("a sure one alone", seven.win(128, 0), -1);
    }

    private static void winAsDaysGo() {
        String bet = "bet a 1 to 1 b that ";
        BettingBook book = Texts.book("thing r;thing s;bars r s;member a;member b;" + bet + "r by 3;" + bet + "s comes;"
            + bet + "r by 5;");
        DUE.is("at first", book.win(3, 0), -1);
        DUE.is("all", book.win(7, 0), 2 + 9);
        book.day(4);
        DUE.is("r by 3 is sure", book.win(7, 0), -1);
        book.come(0);
        DUE.is("the other open", book.win(7, 0), -1);
        DUE.is("and none is left then", book.win(5, 0), -1);
    }

    private static void worth() {
        BettingBook book = Texts.book(ONE);
        DUE.is("no chances", book.worth(0, 0), NO_WORTH);
        book.chance(0, -1, 50);
        book.chance(0, 0, 20);
        book.chance(0, 1, 10);
        DUE.is("not whole", book.worth(0, 1), NO_WORTH);
        book.chance(0, 2, 20);
        DUE.is("upper", book.worth(0, 0), 1);
        DUE.is("lower", book.worth(0, 1), 5);
        DUE.is("worth(0, 2)", book.worth(0, 2), NO_WORTH);
        DUE.is("worth(0, -1)", book.worth(0, -1), NO_WORTH);
        DUE.is("worth(1, 0)", book.worth(1, 0), NO_WORTH);
        DUE.is("worth(-1, 0)", book.worth(-1, 0), NO_WORTH);
        book.day(1);
        DUE.is("upper on day 1", book.worth(0, 0), 1);
        DUE.is("lower on day 1", book.worth(0, 1), 4);
        book.day(2);
        DUE.is("upper on day 2", book.worth(0, 0), -4);
        DUE.is("lower on day 2", book.worth(0, 1), 7);
        book.day(3);
        DUE.is("upper on day 3", book.worth(0, 0), -2);
        DUE.is("lower on day 3", book.worth(0, 1), 1);
        BettingBook two = Texts.book("thing r;thing s;member a;member b;brings r s in 0;bet a 1 to 2 b that s comes;");
        two.chance(0, 3, 25);
        two.chance(0, -1, 75);
        two.chance(1, 2, 30);
        two.chance(1, 4, 70);
        // r with s on day 4 isn't possible: 25 * 30 + 75 * 100 of 100 * 100 are left.
        DUE.is("sure to come", two.worth(0, 0), 2);
        DUE.is("of possible rows", two.worth(0, 1), 1);
        two.chance(1, 4, 0);
        two.chance(1, -1, 70);
        DUE.is("upper of (2 * 3000 - 5250) : 8250", two.worth(0, 0), 1);
        DUE.is("lower of (2 * 3000 - 5250) : 8250", two.worth(0, 1), 11);
    }

    private static void worthIsGone() {
        BettingBook book = Texts.book("thing r from 2;member a;member b;bet a 1 to 1 b that r comes off r by 3;"
            + "bet a 3 to 3 b that r by 5 off r comes;");
        book.chance(0, 0, 100);
        DUE.is("a day that it hasn't", book.worth(0, 0), NO_WORTH);
        book.chance(0, 0, 0);
        book.chance(0, 3, 100);
        DUE.is("0, upper", book.worth(0, 0), 0);
        DUE.is("0, lower", book.worth(0, 1), 1);
        book.day(4);
        DUE.is("all weights are 0", book.worth(0, 1), NO_WORTH);
        DUE.is("all weights are 0", book.holds(0, 0), NO_WORTH);
        BettingBook none = Texts.book("member a;member b;bet a 5 to 9 b that least 0 by 0;");
        DUE.is("no things, upper", none.worth(0, 0), 9);
        DUE.is("no things, lower", none.worth(0, 1), 1);
        StringBuilder great = new StringBuilder();
        for (char thing = 'p'; thing < 'u'; thing++) {
            great.append("thing ").append(thing).append(";");
        }
        BettingBook most = Texts.book(great + "member a;member b;"
            + "bet a 999 to 998 b that p comes double least 0 by 0;".repeat(12));
        for (int thing = 0; thing < 5; thing++) {
            most.chance(thing, -1, 51);
            most.chance(thing, 7, 49);
        }
        DUE.is("great numbers, upper", most.holds(0, 0), 12 * 2 * (49 * 998 - 51 * 999) / 4);
        DUE.is("great numbers, lower", most.holds(0, 1), 25);
    }

    private static void holds() {
        BettingBook book = Texts.book(ONE + "member c;bet c 10 to 10 b that r comes;");
        DUE.is("no chances", book.holds(0, 0), NO_WORTH);
        book.chance(0, -1, 50);
        book.chance(0, 0, 20);
        book.chance(0, 1, 10);
        book.chance(0, 2, 20);
        DUE.is("a, upper", book.holds(0, 0), 1);
        DUE.is("a, lower", book.holds(0, 1), 5);
        DUE.is("b, upper", book.holds(1, 0), -1);
        DUE.is("b, lower", book.holds(1, 1), 5);
        DUE.is("c, upper", book.holds(2, 0), 0);
        DUE.is("c, lower", book.holds(2, 1), 1);
        book.paid(0, 1, 50);
        book.sell(1, 1, 0, 9);
        book.chance(0, -1, 40);
        book.chance(0, 3, 10);
        DUE.is("a with a side of c's wager, upper", book.holds(0, 0), -13);
        DUE.is("a with a side of c's wager, lower", book.holds(0, 1), 10);
        DUE.is("b, upper", book.holds(1, 0), -7);
        DUE.is("b, lower", book.holds(1, 1), 10);
        DUE.is("holds(0, 2)", book.holds(0, 2), NO_WORTH);
        DUE.is("holds(0, -1)", book.holds(0, -1), NO_WORTH);
        DUE.is("holds(3, 0)", book.holds(3, 0), NO_WORTH);
        DUE.is("holds(-1, 0)", book.holds(-1, 0), NO_WORTH);
    }

    private static void luck() {
        BettingBook book = Texts.book(ONE + "member c;");
        DUE.is("many rows", book.luck(0, 0), -1);
        DUE.is("many rows", book.luck(0, 1), -1);
        book.day(2);
        book.come(0);
        DUE.is("of a", book.luck(0, 0), 3);
        DUE.is("of b", book.luck(1, 0), 8);
        DUE.is("of c", book.luck(2, 0), 9);
        DUE.is("possible rows", book.luck(0, 1), 9);
        DUE.is("luck(0, 2)", book.luck(0, 2), -1);
        DUE.is("luck(0, -1)", book.luck(0, -1), -1);
        DUE.is("luck(3, 0)", book.luck(3, 0), -1);
        DUE.is("luck(-1, 1)", book.luck(-1, 1), -1);
        book.paid(0, 1, 90);
        DUE.is("of a, who paid", book.luck(0, 0), 3);
        BettingBook never = Texts.book("thing r until 3;thing s until 3;bars r s;member a;member b;"
            + "bet a 2 to 3 b that r comes or s comes;");
        never.day(4);
        DUE.is("of a, who lost", never.luck(0, 0), 19);
        DUE.is("of b, who won", never.luck(1, 0), 1);
        DUE.is("possible rows, not all", never.luck(1, 1), 19);
    }
}
