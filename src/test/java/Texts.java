import java.nio.charset.StandardCharsets;

/** Brings texts onto the tape of a book. */
final class Texts {
    private Texts() {
    }

    /** Feeds a text, filled up with blanks to whole twenties: how many bytes it has itself. */
    static int feed(BettingBook book, String text) {
        byte[] bytes = text.getBytes(StandardCharsets.ISO_8859_1);
        int[] fives = fives(bytes);
        for (int i = 0; i < fives.length; i += 5) {
            book.feed(fives[i], fives[i + 1], fives[i + 2], fives[i + 3], fives[i + 4]);
        }
        return bytes.length;
    }

    /** The numbers that feed() takes, five for each twenty bytes. */
    static int[] fives(byte[] bytes) {
        int feeds = (bytes.length + 19) / 20;
        int[] numbers = new int[5 * feeds];
        for (int i = 0; i < 20 * feeds; i++) {
            int sign = i < bytes.length ? bytes[i] & 255 : ' ';
            numbers[i / 4] = numbers[i / 4] << 8 | sign;
        }
        return numbers;
    }

    /** A new book of this text. */
    static BettingBook book(String text) {
        BettingBook book = new BettingBook();
        int wagers = tell(book, text);
        if (wagers < 0) {
            throw new IllegalArgumentException("fault at " + book.fault() + " in: " + text);
        }
        return book;
    }

    /** What book() answers to this text. */
    static int tell(BettingBook book, String text) {
        return book.book(feed(book, text));
    }

    /** The FAULT of a text in a new book. */
    static int fault(String text) {
        BettingBook book = new BettingBook();
        tell(book, text);
        return book.fault();
    }
}
