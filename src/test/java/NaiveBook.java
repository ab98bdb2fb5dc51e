import java.math.BigInteger;
import java.util.ArrayList;
import java.util.Arrays;
import java.util.HashMap;
import java.util.HashSet;
import java.util.List;
import java.util.Map;
import java.util.Set;
import java.util.function.Predicate;

/** The document's words one by one, with no thought for speed: what random runs are held against. */
final class NaiveBook {
    private static final long NO_COIN = -1_000_000;
    private static final long NO_WORTH = -1_000_000_000_000_000L;

    /** A wager: its rows are arrays of days, -1 for never. */
    static final class Wager {
        int[] members;
        int[] coins;
        Predicate<int[]> that;
        Predicate<int[]> off;
        Predicate<int[]> twice;

        boolean isOff(int[] row) {
            return off != null && off.test(row);
        }

        boolean isDouble(int[] row) {
            return twice != null && twice.test(row);
        }

        long pays(int[] row) {
            if (isOff(row)) {
                return 0;
            }
            long coin = that.test(row) ? coins[1] : -coins[0];
            return isDouble(row) ? 2 * coin : coin;
        }
    }

    /** All that an image keeps. */
    private static final class State {
        int today;
        int[] came;
        int[][] holders;
        long[] paid;
        long[] soldFor;
        int sold;

        State copy() {
            State copy = new State();
            copy.today = today;
            copy.came = came.clone();
            copy.holders = new int[holders.length][];
            for (int i = 0; i < holders.length; i++) {
                copy.holders[i] = holders[i].clone();
            }
            copy.paid = paid.clone();
            copy.soldFor = soldFor.clone();
            copy.sold = sold;
            return copy;
        }
    }

    private final StringBuilder tape = new StringBuilder();
    private NaiveText text = NaiveText.read("");
    private State state;
    private final List<State> images = new ArrayList<>();
    private int[][] chances = new int[0][];
    private int faultPlace = -1;
    private int taken;
    private List<int[]> possible;

    NaiveBook() {
        open();
    }

    private void open() {
        state = new State();
        state.came = new int[text.things.size()];
        Arrays.fill(state.came, -1);
        state.holders = new int[text.wagers.size()][];
        for (int w = 0; w < text.wagers.size(); w++) {
            state.holders[w] = text.wagers.get(w).members.clone();
        }
        state.paid = new long[text.members.size()];
        state.soldFor = new long[text.members.size()];
        images.clear();
        chances = new int[text.things.size()][9];
        possible = new ArrayList<>();
        for (int code = 0; code < power(9, text.things.size()); code++) {
            int[] row = row(code);
            if (row != null && isPossible(row)) {
                possible.add(row);
            }
        }
    }

    private static int power(int base, int times) {
        int product = 1;
        for (int i = 0; i < times; i++) {
            product *= base;
        }
        return product;
    }

    private int[] row(int code) {
        int things = text.things.size();
        if (code < 0 || code >= power(9, things)) {
            return null;
        }
        int[] row = new int[things];
        int rest = code;
        for (int i = 0; i < things; i++) {
            row[i] = rest % 9 - 1;
            rest /= 9;
            if (row[i] >= 0 && (row[i] < text.from.get(i) || row[i] > text.until.get(i))) {
                return null;
            }
        }
        return row;
    }

    private static int code(int[] row) {
        int code = 0;
        for (int i = row.length - 1; i >= 0; i--) {
            code = 9 * code + row[i] + 1;
        }
        return code;
    }

    private boolean isPossible(int[] row) {
        for (Predicate<int[]> rule : text.rules) {
            if (!rule.test(row)) {
                return false;
            }
        }
        return true;
    }

    private boolean isLeft(int[] row) {
        if (!isPossible(row)) {
            return false;
        }
        for (int i = 0; i < row.length; i++) {
            if (state.came[i] >= 0 ? row[i] != state.came[i] : row[i] >= 0 && row[i] < state.today) {
                return false;
            }
        }
        return true;
    }

    private List<int[]> left() {
        List<int[]> left = new ArrayList<>();
        for (int[] row : possible) {
            if (isLeft(row)) {
                left.add(row);
            }
        }
        return left;
    }

    private Wager wagerAt(int w) {
        return w < 0 || w >= text.wagers.size() ? null : text.wagers.get(w);
    }

    private boolean isThing(int i) {
        return i >= 0 && i < text.things.size();
    }

    private boolean isMember(int i) {
        return i >= 0 && i < text.members.size();
    }

    int feed(int... numbers) {
        if (tape.length() + 20 > 1200) {
            return -1;
        }
        for (int number : numbers) {
            for (int i = 3; i >= 0; i--) {
                tape.append((char) (number >> 8 * i & 255));
            }
        }
        return tape.length();
    }

    int book(int n) {
        if (n < 0 || n > tape.length()) {
            return -2;
        }
        String told = tape.substring(0, n);
        tape.setLength(0);
        try {
            text = NaiveText.read(told);
        } catch (NaiveText.Fault fault) {
            faultPlace = fault.place;
            return -1;
        }
        faultPlace = -1;
        taken++;
        open();
        return text.wagers.size();
    }

    int fault() {
        return faultPlace;
    }

    int told(int what) {
        if (what >= 0 && what <= 3) {
            return new int[] {text.things.size(), text.members.size(), text.wagers.size(), text.statements}[what];
        }
        for (int i = 0; i < text.things.size(); i++) {
            if (what == 100 + 2 * i) {
                return text.from.get(i);
            }
            if (what == 101 + 2 * i) {
                return text.until.get(i);
            }
        }
        return -1;
    }

    int wager(int w, int what) {
        Wager wager = wagerAt(w);
        if (wager == null || what < 0 || what > 5) {
            return -1;
        }
        return new int[] {state.holders[w][0], state.holders[w][1], wager.coins[0], wager.coins[1],
            wager.off == null ? 0 : 1, wager.twice == null ? 0 : 1}[what];
    }

    int day(int d) {
        if (d <= state.today || d > 7) {
            return -1;
        }
        int before = state.today;
        state.today = d;
        int left = left().size();
        if (left == 0) {
            state.today = before;
            return -1;
        }
        return left;
    }

    int come(int thing) {
        if (!isThing(thing) || state.came[thing] >= 0) {
            return -1;
        }
        state.came[thing] = state.today;
        int left = left().size();
        if (left == 0) {
            state.came[thing] = -1;
            return -1;
        }
        return left;
    }

    boolean chance(int thing, int day, int parts) {
        if (!isThing(thing) || day < -1 || day > 7 || parts < 0 || parts > 100) {
            return false;
        }
        chances[thing][day + 1] = parts;
        return true;
    }

    boolean sell(int w, int side, int member, int coin) {
        if (wagerAt(w) == null || side != 0 && side != 1 || !isMember(member) || coin < 0 || coin > 9999) {
            return false;
        }
        if (state.holders[w][side] == member || isSure(w)) {
            return false;
        }
        state.soldFor[state.holders[w][side]] += coin;
        state.soldFor[member] -= coin;
        state.holders[w][side] = member;
        state.sold++;
        return true;
    }

    boolean paid(int from, int to, int coin) {
        if (!isMember(from) || !isMember(to) || from == to || coin < 1 || coin > 9999) {
            return false;
        }
        state.paid[from] += coin;
        state.paid[to] -= coin;
        return true;
    }

    int rows(int k) {
        List<int[]> left = left();
        if (k == -1) {
            return left.size();
        }
        return k >= 0 && k < left.size() ? code(left.get(k)) : -1;
    }

    int fits(int code) {
        int[] row = row(code);
        if (row == null) {
            return -1;
        }
        return isLeft(row) ? 2 : isPossible(row) ? 1 : 0;
    }

    long pays(int w, int code) {
        int[] row = row(code);
        return wagerAt(w) == null || row == null ? NO_COIN : wagerAt(w).pays(row);
    }

    private boolean isSure(int w) {
        Set<Long> seen = new HashSet<>();
        for (int[] row : left()) {
            seen.add(wagerAt(w).pays(row));
        }
        return seen.size() == 1;
    }

    long sure(int w, int what) {
        if (wagerAt(w) == null || what != 0 && what != 1) {
            return NO_COIN;
        }
        if (!isSure(w)) {
            return 0;
        }
        return what == 0 ? 1 : wagerAt(w).pays(left().get(0));
    }

    int split(int w, int what) {
        Wager wager = wagerAt(w);
        if (wager == null || what < 0 || what > 3) {
            return -1;
        }
        int[] counts = new int[4];
        for (int[] row : left()) {
            if (wager.isOff(row)) {
                counts[2]++;
            } else {
                counts[wager.that.test(row) ? 0 : 1]++;
                counts[3] += wager.isDouble(row) ? 1 : 0;
            }
        }
        return counts[what];
    }

    private static List<Integer> till(int[] row, int day) {
        List<Integer> seen = new ArrayList<>();
        for (int when : row) {
            seen.add(when <= day ? when : -1);
        }
        return seen;
    }

    private int decided(Wager wager, int[] row) {
        for (int day = 0; day <= 7; day++) {
            boolean alike = true;
            for (int[] other : possible) {
                alike &= !till(other, day).equals(till(row, day)) || wager.pays(other) == wager.pays(row);
            }
            if (alike) {
                return day;
            }
        }
        throw new IllegalStateException();
    }

    int when(int w, int code) {
        int[] row = row(code);
        return wagerAt(w) == null || row == null || !isPossible(row) ? -1 : decided(wagerAt(w), row);
    }

    int latest(int w) {
        if (wagerAt(w) == null) {
            return -1;
        }
        for (int day = 0; day <= 7; day++) {
            Map<List<Integer>, Set<Long>> seen = new HashMap<>();
            for (int[] row : possible) {
                seen.computeIfAbsent(till(row, day), key -> new HashSet<>()).add(wagerAt(w).pays(row));
            }
            boolean decided = true;
            for (int[] row : left()) {
                decided &= seen.get(till(row, day)).size() == 1;
            }
            if (decided) {
                return day;
            }
        }
        throw new IllegalStateException();
    }

    int hang(int w) {
        if (wagerAt(w) == null) {
            return -1;
        }
        int best = -1;
        for (int bits = 0; bits < 1 << text.things.size(); bits++) {
            if ((best < 0 || Integer.bitCount(bits) < Integer.bitCount(best)) && tellsAll(w, bits)) {
                best = bits;
            }
        }
        return best;
    }

    private boolean tellsAll(int w, int bits) {
        Map<List<Integer>, Long> seen = new HashMap<>();
        for (int[] row : left()) {
            List<Integer> key = new ArrayList<>();
            for (int i = 0; i < row.length; i++) {
                key.add((bits >> i & 1) != 0 ? row[i] : -2);
            }
            long pays = wagerAt(w).pays(row);
            Long before = seen.put(key, pays);
            if (before != null && before != pays) {
                return false;
            }
        }
        return true;
    }

    int same(int one, int other) {
        if (wagerAt(one) == null || wagerAt(other) == null) {
            return -2;
        }
        for (int[] row : possible) {
            if (wagerAt(one).pays(row) != wagerAt(other).pays(row)) {
                return code(row);
            }
        }
        return -1;
    }

    private long sidesPay(int member, int w, int[] row) {
        long coin = 0;
        if (state.holders[w][0] == member) {
            coin += wagerAt(w).pays(row);
        }
        if (state.holders[w][1] == member) {
            coin -= wagerAt(w).pays(row);
        }
        return coin;
    }

    long has(int member) {
        if (!isMember(member)) {
            return NO_COIN;
        }
        long coin = state.paid[member] + state.soldFor[member];
        for (int w = 0; w < text.wagers.size(); w++) {
            if (isSure(w)) {
                coin += sidesPay(member, w, left().get(0));
            }
        }
        return coin;
    }

    private long endIn(int member, int[] row) {
        long coin = state.paid[member] + state.soldFor[member];
        for (int w = 0; w < text.wagers.size(); w++) {
            coin += sidesPay(member, w, row);
        }
        return coin;
    }

    long may(int member, int what) {
        if (!isMember(member) || what != 0 && what != 1) {
            return NO_COIN;
        }
        List<Long> ends = new ArrayList<>();
        for (int[] row : left()) {
            ends.add(endIn(member, row));
        }
        ends.sort(null);
        return ends.get(what == 0 ? 0 : ends.size() - 1);
    }

    long end(int member, int code) {
        int[] row = row(code);
        return !isMember(member) || row == null ? NO_COIN : endIn(member, row);
    }

    int settle() {
        List<Long> owed = new ArrayList<>();
        for (int member = 0; member < text.members.size(); member++) {
            if (has(member) != 0) {
                owed.add(has(member));
            }
        }
        return owed.size() - mostGroups(owed, new ArrayList<>());
    }

    /** Puts each one into every group there is, or into a new one. */
    private static int mostGroups(List<Long> owed, List<Long> groups) {
        if (owed.isEmpty()) {
            for (long group : groups) {
                if (group != 0) {
                    return 0;
                }
            }
            return groups.size();
        }
        List<Long> rest = owed.subList(1, owed.size());
        int most = 0;
        for (int i = 0; i <= groups.size(); i++) {
            List<Long> next = new ArrayList<>(groups);
            if (i == groups.size()) {
                next.add(owed.get(0));
            } else {
                next.set(i, next.get(i) + owed.get(0));
            }
            most = Math.max(most, mostGroups(rest, next));
        }
        return most;
    }

    int best(int what) {
        int best = -1;
        for (int member = 0; member < text.members.size() && (what == 0 || what == 1); member++) {
            if (best < 0 || (what == 0 ? has(member) > has(best) : has(member) < has(best))) {
                best = member;
            }
        }
        return best;
    }

    int win(int wagers, int what) {
        if (wagers < 0 || wagers >= 1 << text.wagers.size() || what != 0 && what != 1) {
            return -1;
        }
        List<Integer> open = new ArrayList<>();
        for (int w = 0; w < text.wagers.size(); w++) {
            if ((wagers >> w & 1) != 0 && !isSure(w)) {
                open.add(w);
            }
        }
        if (open.isEmpty() || open.size() > 6) {
            return -1;
        }
        Set<List<Long>> seen = new HashSet<>();
        for (int[] row : left()) {
            List<Long> pays = new ArrayList<>();
            for (int w : open) {
                pays.add(wagerAt(w).pays(row));
            }
            seen.add(pays);
        }
        int bestCode = -1;
        int bestCoin = -1;
        for (int code = 0; code < power(3, open.size()); code++) {
            int coin = coinOf(code, open);
            if (winsBy(code, seen) && (bestCode < 0 || coin < bestCoin)) {
                bestCode = code;
                bestCoin = coin;
            }
        }
        return what == 0 ? bestCode : bestCoin;
    }

    private int coinOf(int code, List<Integer> open) {
        int coin = 0;
        for (int i = 0; i < open.size(); i++) {
            int side = code / power(3, i) % 3 - 1;
            coin += side < 0 ? 0 : wagerAt(open.get(i)).coins[side];
        }
        return coin;
    }

    private static boolean winsBy(int code, Set<List<Long>> seen) {
        boolean more = false;
        for (List<Long> pays : seen) {
            long coin = 0;
            for (int i = 0; i < pays.size(); i++) {
                int side = code / power(3, i) % 3 - 1;
                coin += side < 0 ? 0 : side == 0 ? pays.get(i) : -pays.get(i);
            }
            if (coin < 0) {
                return false;
            }
            more |= coin > 0;
        }
        return more;
    }

    private boolean areWhole() {
        for (int[] parts : chances) {
            if (Arrays.stream(parts).sum() != 100) {
                return false;
            }
        }
        return true;
    }

    private long worthOf(int what, java.util.function.ToLongFunction<int[]> coins) {
        if (what != 0 && what != 1 || !areWhole()) {
            return NO_WORTH;
        }
        BigInteger upper = BigInteger.ZERO;
        BigInteger lower = BigInteger.ZERO;
        for (int[] row : left()) {
            BigInteger weight = BigInteger.ONE;
            for (int i = 0; i < row.length; i++) {
                weight = weight.multiply(BigInteger.valueOf(chances[i][row[i] + 1]));
            }
            upper = upper.add(weight.multiply(BigInteger.valueOf(coins.applyAsLong(row))));
            lower = lower.add(weight);
        }
        if (lower.signum() == 0) {
            return NO_WORTH;
        }
        BigInteger common = upper.gcd(lower);
        return (what == 0 ? upper : lower).divide(common).longValueExact();
    }

    long worth(int w, int what) {
        return wagerAt(w) == null ? NO_WORTH : worthOf(what, row -> wagerAt(w).pays(row));
    }

    long holds(int member, int what) {
        if (!isMember(member)) {
            return NO_WORTH;
        }
        return worthOf(what, row -> {
            long coin = 0;
            for (int w = 0; w < text.wagers.size(); w++) {
                coin += sidesPay(member, w, row);
            }
            return coin;
        });
    }

    int luck(int member, int what) {
        List<int[]> left = left();
        if (!isMember(member) || left.size() != 1 || what != 0 && what != 1) {
            return -1;
        }
        int reached = 0;
        for (int[] row : possible) {
            reached += endIn(member, row) >= endIn(member, left.get(0)) ? 1 : 0;
        }
        return what == 0 ? reached : possible.size();
    }

    int image() {
        if (images.size() == 4) {
            return -1;
        }
        images.add(state.copy());
        return images.size() - 1;
    }

    boolean back(int image) {
        if (image < 0 || image >= images.size()) {
            return false;
        }
        state = images.get(image).copy();
        return true;
    }

    int count(int what) {
        switch (what) {
            case 0:
                return taken;
            case 1:
                return state.today;
            case 2:
                int bits = 0;
                for (int i = 0; i < state.came.length; i++) {
                    bits |= state.came[i] >= 0 ? 1 << i : 0;
                }
                return bits;
            case 3:
                return tape.length();
            case 4:
                return images.size();
            case 5:
                int sure = 0;
                for (int w = 0; w < text.wagers.size(); w++) {
                    sure += isSure(w) ? 1 : 0;
                }
                return sure;
            case 6:
                return possible.size();
            case 7:
                return areWhole() ? 1 : 0;
            case 8:
                return state.sold;
            default:
                return -1;
        }
    }
}
