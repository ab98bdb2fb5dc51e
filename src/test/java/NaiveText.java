import java.util.ArrayList;
import java.util.Arrays;
import java.util.HashSet;
import java.util.List;
import java.util.Set;
import java.util.function.Predicate;
import java.util.regex.Matcher;
import java.util.regex.Pattern;

/** A text read by the grammar's lines, for NaiveBook. */
final class NaiveText {
    /** That a text is no BOOK, and where. */
    static final class Fault extends RuntimeException {
        private static final long serialVersionUID = 1;
        final int place;

        Fault(int place) {
            super("fault at " + place);
            this.place = place;
        }
    }

    private static final Set<String> WORDS = new HashSet<>(Arrays.asList("thing", "from", "until", "member", "bars",
        "brings", "in", "bet", "to", "that", "off", "double", "or", "and", "not", "comes", "by", "before", "least"));
    private static final Pattern TOKEN = Pattern.compile("[ \n]*([a-z]+|[0-9]+|[;()])?");

    final List<String> things = new ArrayList<>();
    final List<String> members = new ArrayList<>();
    final List<Integer> from = new ArrayList<>();
    final List<Integer> until = new ArrayList<>();
    final List<Predicate<int[]>> rules = new ArrayList<>();
    final List<NaiveBook.Wager> wagers = new ArrayList<>();
    int statements;

    private final String text;
    private int place;
    private String token;
    private int behind;

    private NaiveText(String text) {
        this.text = text;
    }

    static NaiveText read(String text) {
        NaiveText read = new NaiveText(text);
        read.next();
        while (!(read.token.isEmpty() && read.place == text.length())) {
            if (read.statements == 40) {
                throw new Fault(read.place);
            }
            read.statement();
            read.want(";");
            read.statements++;
        }
        return read;
    }

    /** To the next token: an empty one at the text's end and where a byte begins none. */
    private void next() {
        Matcher matcher = TOKEN.matcher(text);
        matcher.region(behind, text.length());
        matcher.lookingAt();
        token = matcher.group(1) == null ? "" : matcher.group(1);
        place = matcher.end() - token.length();
        behind = matcher.end();
    }

    private String take() {
        String taken = token;
        next();
        return taken;
    }

    private Fault fault() {
        return new Fault(place);
    }

    private boolean taken(String word) {
        if (!token.equals(word)) {
            return false;
        }
        next();
        return true;
    }

    private void want(String word) {
        if (!taken(word)) {
            throw fault();
        }
    }

    private void statement() {
        if (taken("thing")) {
            String name = newName(things.size() < 5);
            int first = taken("from") ? number(0, 7) : 0;
            int last = taken("until") ? number(first, 7) : 7;
            things.add(name);
            from.add(first);
            until.add(last);
        } else if (taken("member")) {
            members.add(newName(members.size() < 6));
        } else if (taken("bars")) {
            int one = told(things, -1);
            int other = told(things, one);
            rules.add(row -> !(row[one] >= 0 && row[other] >= 0 && row[other] > row[one]));
        } else if (taken("brings")) {
            int one = told(things, -1);
            int other = told(things, one);
            want("in");
            int days = number(0, 7);
            rules.add(row -> row[one] < 0 || row[one] + days > 7
                || row[other] >= 0 && row[other] <= row[one] + days);
        } else if (token.equals("bet") && wagers.size() < 12) {
            take();
            bet();
        } else {
            throw fault();
        }
    }

    private void bet() {
        NaiveBook.Wager wager = new NaiveBook.Wager();
        int one = told(members, -1);
        int coin = number(1, 999);
        want("to");
        int otherCoin = number(1, 999);
        int other = told(members, one);
        want("that");
        wager.members = new int[] {one, other};
        wager.coins = new int[] {coin, otherCoin};
        wager.that = any(0);
        wager.off = taken("off") ? any(0) : null;
        wager.twice = taken("double") ? any(0) : null;
        wagers.add(wager);
    }

    private Predicate<int[]> any(int open) {
        Predicate<int[]> any = all(open);
        while (taken("or")) {
            any = any.or(all(open));
        }
        return any;
    }

    private Predicate<int[]> all(int open) {
        Predicate<int[]> all = one(open);
        while (taken("and")) {
            all = all.and(one(open));
        }
        return all;
    }

    private Predicate<int[]> one(int open) {
        if ((token.equals("not") || token.equals("(")) && open == 9) {
            throw fault();
        }
        if (taken("not")) {
            return one(open + 1).negate();
        }
        if (taken("(")) {
            Predicate<int[]> any = any(open + 1);
            want(")");
            return any;
        }
        if (taken("least")) {
            int many = number(0, 9);
            want("by");
            int day = number(0, 7);
            return row -> Arrays.stream(row).filter(when -> when >= 0 && when <= day).count() >= many;
        }
        int thing = told(things, -1);
        if (taken("comes")) {
            return row -> row[thing] >= 0;
        }
        if (taken("by")) {
            int day = number(0, 7);
            return row -> row[thing] >= 0 && row[thing] <= day;
        }
        want("before");
        int other = told(things, thing);
        return row -> row[thing] >= 0 && (row[other] < 0 || row[other] > row[thing]);
    }

    private String newName(boolean room) {
        boolean fresh = room && token.matches("[a-z]{1,8}") && !WORDS.contains(token)
            && !things.contains(token) && !members.contains(token);
        if (!fresh) {
            throw fault();
        }
        return take();
    }

    private int told(List<String> names, int otherThan) {
        int found = names.indexOf(token);
        if (found < 0 || found == otherThan) {
            throw fault();
        }
        next();
        return found;
    }

    private int number(int least, int most) {
        if (!token.matches("[0-9]{1,3}") || Integer.parseInt(token) < least || Integer.parseInt(token) > most) {
            throw fault();
        }
        return Integer.parseInt(take());
    }
}
