import java.nio.charset.StandardCharsets;
import java.util.Random;

/** Random runs on random texts, each answer held against the naive book's. */
final class RandomRunsTest {
    private static final String[] NAMES = {"a", "b", "rain", "war", "wedding", "abcdefgh", "x", "yy", "thin", "nota"};
    private static final String[] ODD = {"thing", "from", "until", "member", "bars", "brings", "in", "bet", "to",
        "that", "off", "double", "or", "and", "not", "comes", "by", "before", "least", ";", "(", ")", "0", "7", "8",
        "999", "1000", "0007", "007", "$", "A", "abcdefghi", "a", "x", "", " ", "\n", "\t", "\u00e9"};

    private final Random random;
    private final Due due;
    private final BettingBook real = new BettingBook();
    private final NaiveBook naive = new NaiveBook();
    private final String name;
    private int things;
    private int members;

    private RandomRunsTest(int seed, Due due) {
        this.random = new Random(seed);
        this.due = due;
        this.name = "run " + seed + ": ";
    }

    public static void main(String[] arguments) {
        Due due = new Due();
        int runs = arguments.length > 0 ? Integer.parseInt(arguments[0]) : 1200;
        for (int seed = 1; seed <= runs && due.wrong() == 0; seed++) {
            new RandomRunsTest(seed, due).go(seed % 40 == 0 ? 4 : seed % 4);
        }
        due.end();
    }

    private void go(int mostThings) {
        int calls = mostThings > 3 ? 30 : 120;
        if (random.nextInt(20) == 0) {
            askOften(30);
        }
        for (int books = 0; books < 3; books++) {
            things = mostThings > 2 ? mostThings : random.nextInt(mostThings + 1);
            members = random.nextInt(10) == 0 ? random.nextInt(3) : 2 + random.nextInt(5);
            tell(text());
            askOften(calls);
            for (int i = 0; i < 8; i++) {
                tell(broken(text()));
            }
            askOften(10);
        }
    }

    private void askOften(int calls) {
        for (int i = 0; i < calls; i++) {
            ask();
        }
    }

    private void tell(String text) {
        byte[] bytes = text.getBytes(StandardCharsets.ISO_8859_1);
        int[] fives = Texts.fives(bytes);
        for (int i = 0; i < fives.length; i += 5) {
            due.is(name + "feed", real.feed(fives[i], fives[i + 1], fives[i + 2], fives[i + 3], fives[i + 4]),
                naive.feed(fives[i], fives[i + 1], fives[i + 2], fives[i + 3], fives[i + 4]));
        }
        int n = random.nextInt(30) == 0 ? random.nextInt(1300) - 20 : bytes.length;
        due.is(name + "book of " + text, real.book(n), naive.book(n));
        due.is(name + "fault of " + text, real.fault(), naive.fault());
        for (int what = -1; what < 112; what += what == 4 ? 94 : 1) {
            due.is(name + "told(" + what + ") of " + text, real.told(what), naive.told(what));
        }
        due.is(name + "count(3)", real.count(3), naive.count(3));
    }

    private String text() {
        StringBuilder text = new StringBuilder();
        for (int i = 0; i < things; i++) {
            text.append("thing ").append(NAMES[i]);
            int from = 0;
            if (random.nextInt(3) == 0) {
                from = random.nextInt(8);
                text.append(" from ").append(from);
            }
            if (random.nextInt(3) == 0) {
                text.append(" until ").append(from + random.nextInt(8 - from));
            }
            text.append(random.nextBoolean() ? ";" : " ;\n");
        }
        for (int i = 0; i < members; i++) {
            text.append("member m").append((char) ('a' + i)).append(";");
        }
        if (things > 1) {
            for (int i = random.nextInt(3); i > 0; i--) {
                text.append(random.nextBoolean() ? "bars " + twoThings() + ";"
                    : "brings " + twoThings() + " in " + random.nextInt(8) + ";");
            }
        }
        int bets = members < 2 ? 0 : random.nextInt(random.nextInt(4) == 0 ? 13 : 6);
        for (int i = 0; i < bets && text.length() < 1000; i++) {
            text.append(bet());
        }
        return text.length() > 1200 ? text.substring(0, 1200) : text.toString();
    }

    private String bet() {
        int one = random.nextInt(members);
        int other = (one + 1 + random.nextInt(members - 1)) % members;
        int most = random.nextInt(4) == 0 ? 999 : 5;
        String bet = "bet m" + (char) ('a' + one) + " " + (1 + random.nextInt(most)) + " to "
            + (1 + random.nextInt(most)) + " m" + (char) ('a' + other) + " that " + any(2);
        if (random.nextInt(3) == 0) {
            bet += " off " + any(1);
        }
        if (random.nextInt(3) == 0) {
            bet += " double " + any(1);
        }
        return bet + ";";
    }

    private String any(int depth) {
        String any = one(depth);
        while (random.nextInt(4) == 0) {
            any += (random.nextBoolean() ? " or " : " and ") + one(depth);
        }
        return any;
    }

    private String one(int depth) {
        int kind = random.nextInt(7);
        if (kind == 0 && depth > 0) {
            return "not " + one(depth - 1);
        }
        if (kind == 1 && depth > 0) {
            return "(" + any(depth - 1) + ")";
        }
        if (kind == 2 || things == 0) {
            return "least " + random.nextInt(things + 2) + " by " + random.nextInt(8);
        }
        if (kind == 3 && things > 1) {
            String[] two = twoThings().split(" ");
            return two[0] + " before " + two[1];
        }
        return NAMES[random.nextInt(things)] + (kind == 4 ? " comes" : " by " + random.nextInt(8));
    }

    private String twoThings() {
        int one = random.nextInt(things);
        int other = (one + 1 + random.nextInt(things - 1)) % things;
        return NAMES[one] + " " + NAMES[other];
    }

    /** A text with a piece put in, taken out, or written over. */
    private String broken(String text) {
        int from = random.nextInt(text.length() + 1);
        int till = Math.min(text.length(), from + random.nextInt(6));
        String odd = ODD[random.nextInt(ODD.length)];
        switch (random.nextInt(5)) {
            case 0:
                return cut(text.substring(0, from) + odd + text.substring(from));
            case 1:
                return cut(text.substring(0, from) + " " + odd + " " + text.substring(till));
            case 2:
                return text.substring(0, from) + text.substring(till);
            case 3:
                return text.substring(0, from);
            default:
                int space = text.indexOf(' ', from);
                return space < 0 ? text : cut(text.substring(0, space) + " " + odd + text.substring(space));
        }
    }

    private static String cut(String text) {
        return text.length() > 1200 ? text.substring(0, 1200) : text;
    }

    private int near(int bound) {
        return random.nextInt(25) == 0 ? (random.nextBoolean() ? -1 - random.nextInt(3) : bound + random.nextInt(3))
            : random.nextInt(Math.max(1, bound));
    }

    private int code() {
        int codes = 1;
        for (int i = 0; i < things; i++) {
            codes *= 9;
        }
        if (random.nextBoolean() && real.rows(-1) > 0) {
            return real.rows(random.nextInt(real.rows(-1)));
        }
        return near(codes);
    }

    private void ask() {
        int wagers = real.told(2);
        int w = near(wagers);
        int m = near(real.told(1));
        int t = near(real.told(0));
        int what = near(2);
        switch (random.nextInt(26)) {
            case 0: {
                int d = near(9);
                due.is(name + "day(" + d + ")", real.day(d), naive.day(d));
                break;
            }
            case 1:
                due.is(name + "come(" + t + ")", real.come(t), naive.come(t));
                break;
            case 2:
                giveChances();
                break;
            case 3: {
                int side = near(2);
                int coin = random.nextInt(8) == 0 ? near(10000) : near(5);
                due.is(name + "sell(" + w + "," + side + "," + m + "," + coin + ")",
                    real.sell(w, side, m, coin), naive.sell(w, side, m, coin));
                break;
            }
            case 4: {
                int to = near(real.told(1));
                int coin = random.nextInt(8) == 0 ? near(10000) : near(5);
                due.is(name + "paid(" + m + "," + to + "," + coin + ")",
                    real.paid(m, to, coin), naive.paid(m, to, coin));
                break;
            }
            case 5: {
                int k = near(Math.max(1, naive.rows(-1)));
                due.is(name + "rows(" + k + ")", real.rows(k), naive.rows(k));
                due.is(name + "rows(-1)", real.rows(-1), naive.rows(-1));
                break;
            }
            case 6: {
                int code = code();
                due.is(name + "fits(" + code + ")", real.fits(code), naive.fits(code));
                break;
            }
            case 7: {
                int code = code();
                due.is(name + "pays(" + w + "," + code + ")", real.pays(w, code), naive.pays(w, code));
                break;
            }
            case 8:
                due.is(name + "sure(" + w + "," + what + ")", real.sure(w, what), naive.sure(w, what));
                break;
            case 9: {
                int part = near(4);
                due.is(name + "split(" + w + "," + part + ")", real.split(w, part), naive.split(w, part));
                break;
            }
            case 10: {
                int code = code();
                due.is(name + "when(" + w + "," + code + ")", real.when(w, code), naive.when(w, code));
                break;
            }
            case 11:
                due.is(name + "latest(" + w + ")", real.latest(w), naive.latest(w));
                break;
            case 12:
                due.is(name + "hang(" + w + ")", real.hang(w), naive.hang(w));
                break;
            case 13: {
                int other = near(wagers);
                due.is(name + "same(" + w + "," + other + ")", real.same(w, other), naive.same(w, other));
                break;
            }
            default:
                askOfMembers(w, m, what);
        }
    }

    private void askOfMembers(int w, int m, int what) {
        int wagers = real.told(2);
        switch (random.nextInt(13)) {
            case 0:
                due.is(name + "has(" + m + ")", real.has(m), naive.has(m));
                break;
            case 1:
                due.is(name + "may(" + m + "," + what + ")", real.may(m, what), naive.may(m, what));
                break;
            case 2: {
                int code = code();
                due.is(name + "end(" + m + "," + code + ")", real.end(m, code), naive.end(m, code));
                break;
            }
            case 3:
                due.is(name + "settle()", real.settle(), naive.settle());
                break;
            case 4:
                due.is(name + "best(" + what + ")", real.best(what), naive.best(what));
                break;
            case 5:
            case 6: {
                int bits = random.nextInt(20) == 0 ? random.nextInt() : random.nextInt(1 << Math.max(0, wagers));
                bits |= random.nextInt(3) == 0 && wagers > 0 && wagers < 7 ? (1 << wagers) - 1 : 0;
                due.is(name + "win(" + bits + "," + what + ")", real.win(bits, what), naive.win(bits, what));
                break;
            }
            case 7:
                due.is(name + "worth(" + w + "," + what + ")", real.worth(w, what), naive.worth(w, what));
                break;
            case 8:
                due.is(name + "holds(" + m + "," + what + ")", real.holds(m, what), naive.holds(m, what));
                break;
            case 9:
                due.is(name + "luck(" + m + "," + what + ")", real.luck(m, what), naive.luck(m, what));
                break;
            case 10: {
                due.is(name + "image()", real.image(), naive.image());
                break;
            }
            case 11: {
                int image = near(4);
                due.is(name + "back(" + image + ")", real.back(image), naive.back(image));
                break;
            }
            default: {
                int number = near(9);
                due.is(name + "count(" + number + ")", real.count(number), naive.count(number));
                int other = near(6);
                due.is(name + "wager(" + w + "," + other + ")", real.wager(w, other), naive.wager(w, other));
            }
        }
    }

    /** Mostly so that the chances are whole. */
    private void giveChances() {
        for (int thing = 0; thing < real.told(0); thing++) {
            int rest = 100;
            for (int day = 7; day >= -1; day--) {
                int parts = day == -1 ? rest : random.nextInt(3) == 0 ? random.nextInt(rest + 1) : 0;
                rest -= parts;
                due.is(name + "chance", real.chance(thing, day, parts), naive.chance(thing, day, parts));
            }
        }
        if (random.nextInt(4) == 0) {
            int thing = near(real.told(0));
            int day = near(9) - 1;
            int parts = near(101);
            due.is(name + "chance(" + thing + "," + day + "," + parts + ")",
                real.chance(thing, day, parts), naive.chance(thing, day, parts));
        }
    }
}
