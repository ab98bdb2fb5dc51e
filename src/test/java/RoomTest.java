import java.lang.management.ManagementFactory;

/** The dearest runs of 512 calls, held against the room that they have: no element takes less than a byte. */
final class RoomTest {
    private static final long ELEMENTS = 7_300_000;
    private static final int CALLS = 512;

    private static final String FULL = full();

    public static void main(String[] arguments) {
        Due due = new Due();
        for (int kind = 0; kind < 4; kind++) {
            run(kind);
        }
        String[] names = {"smallest books", "greatest books", "books by turns", "every call"};
        for (int kind = 0; kind < names.length; kind++) {
            long before = allocated();
            long started = System.nanoTime();
            run(kind);
            long bytes = allocated() - before;
            long time = (System.nanoTime() - started) / 1000000;
            System.out.println(names[kind] + ": " + bytes + " bytes, " + time + " ms");
            due.is(names[kind] + " stays in a third of the room", bytes < ELEMENTS / 3, true);
        }
        due.end();
    }

    private static long allocated() {
        return ((com.sun.management.ThreadMXBean) ManagementFactory.getThreadMXBean()).getCurrentThreadAllocatedBytes();
    }

    private static String full() {
        StringBuilder text = new StringBuilder("thing a;thing b;thing c;thing d;thing e;member x;member y;");
        for (int w = 0; w < 12; w++) {
            text.append("bet x 1 to 2 y that a by ").append(w % 8).append(" and b by ").append((w + 3) % 8)
                .append(" off c by ").append(w % 5).append(" or e before d double least 3 by ").append(w % 8)
                .append(";");
        }
        return text.toString();
    }

    private static void run(int kind) {
        BettingBook book = new BettingBook();
        int[] full = Texts.fives(FULL.getBytes(java.nio.charset.StandardCharsets.ISO_8859_1));
        int[] small = Texts.fives("thing a;thing b;thing c;thing d;thing e;".getBytes());
        int calls = 0;
        for (int turn = 0; calls < CALLS; turn++) {
            boolean great = kind == 1 || kind == 2 && turn % 2 == 0 || kind == 3 && turn == 0;
            if (kind == 3 && turn > 0) {
                ask(book, turn);
                calls += 1;
            } else if (kind == 0) {
                book.book(0);
                calls++;
            } else {
                calls += tell(book, great ? full : small, great ? FULL.length() : 40);
            }
        }
    }

    private static int tell(BettingBook book, int[] fives, int length) {
        for (int i = 0; i < fives.length; i += 5) {
            book.feed(fives[i], fives[i + 1], fives[i + 2], fives[i + 3], fives[i + 4]);
        }
        if (book.book(length) < 0) {
            throw new IllegalStateException("fault at " + book.fault());
        }
        return fives.length / 5 + 1;
    }

    private static void ask(BettingBook book, int turn) {
        int w = turn / 15 % 12;
        switch (turn % 15) {
            case 0 -> book.hang(w);
            case 1 -> book.latest(w);
            case 2 -> book.win(0x3f << turn % 6, 0);
            case 3 -> book.when(w, 0);
            case 4 -> book.same(w, (w + 1) % 12);
            case 5 -> book.may(0, 1);
            case 6 -> book.split(w, 3);
            case 7 -> book.chance(turn % 5, -1, 100);
            case 8 -> book.worth(w, 1);
            case 9 -> book.holds(0, 0);
            case 10 -> book.settle();
            case 11 -> book.image();
            case 12 -> book.back(0);
            case 13 -> book.sell(w, turn % 2, turn / 7 % 2, 3);
            default -> book.rows(30000);
        }
    }
}
