import java.lang.management.ManagementFactory;

/** A run's calls live in one room: after an object has been made no call may take more of it. */
public final class RoomTest {
    private static final int MOST_BYTES_OF_AN_OBJECT = 60_000;
    private static int wrong = 0;

    private static long taken() {
        return ((com.sun.management.ThreadMXBean) ManagementFactory.getThreadMXBean())
            .getThreadAllocatedBytes(Thread.currentThread().getId());
    }

    private static void feedText(LetHorizon x, byte[] text) {
        for (int i = 0; i + 20 <= text.length; i += 20) {
            x.feed(word(text, i), word(text, i + 4), word(text, i + 8), word(text, i + 12), word(text, i + 16));
        }
    }

    private static int word(byte[] text, int i) {
        return text[i] << 24 | text[i + 1] << 16 | text[i + 2] << 8 | text[i + 3];
    }

    private static byte[] padded(String text) {
        StringBuilder s = new StringBuilder(text);
        while (s.length() % 20 != 0) s.append(' ');
        byte[] b = new byte[s.length()];
        for (int i = 0; i < b.length; i++) b[i] = (byte) s.charAt(i);
        return b;
    }

    /** All that can be called, with what is dearest; each round some hundred and twenty calls. */
    private static void dearest(LetHorizon x, byte[] law, byte[] wants, byte[] bad) {
        x.state(3);
        x.sea(14);
        for (int i = 0; i < 9; i++) {
            x.ship(i, 10 - i);
            x.pier(i, 0);
            x.sunset(i, 9);
        }
        x.sunset(-1, 0);
        feedText(x, law);
        x.text(0);
        feedText(x, wants);
        x.text(2);
        feedText(x, bad);
        x.text(1);
        x.fault(0);
        x.set(1, 0, 900);
        x.raise(5, 30);
        x.lift(5);
        x.mend(5);
        x.hours(60);
        x.undo();
        for (int what = 0; what < 5; what++) {
            x.goes(99, what);
            x.meets(5, what);
            x.smooth(10 + what);
            x.lifted(what);
            x.coils(50, 10 + what);
            x.moors(10 + what);
            x.of(3, what);
            x.shipOf(3, what);
            x.pierOf(3, what);
            x.book(3, what);
            x.watch(what);
            x.game(what);
            x.look(what);
        }
        x.over(1);
        x.folds();
        x.part(999, 2);
        x.fee(99, 99);
        x.costs(1, 40);
        x.sun(1, 1);
        x.end(0);
        x.image(true);
        x.image(false);
    }

    public static void main(String[] args) {
        byte[] law = padded("sun 90-3*hour when not(leans<2)and height>3 or worn=5;wear leans/2+1;cost by*2;slide 1 when hour<9;");
        StringBuilder s = new StringBuilder();
        for (int i = 0; i < 12; i++) s.append("pier ").append(i % 6).append("wants 9from 0to 9pays 9;");
        byte[] wants = padded(s.toString());
        byte[] bad = padded("at 0 lift 1; at 1 drop 99;");
        new LetHorizon();
        dearest(new LetHorizon(), law, wants, bad);
        taken();
        long before = taken();
        long idle = taken() - before;
        before = taken();
        LetHorizon x = new LetHorizon();
        long made = taken() - before - idle;
        before = taken();
        for (int i = 0; i < 4; i++) dearest(x, law, wants, bad);
        long called = taken() - before - idle;
        if (made > MOST_BYTES_OF_AN_OBJECT) {
            wrong++;
            System.out.println("an object takes " + made + " bytes");
        }
        if (called > 0) {
            wrong++;
            System.out.println("calls take " + called + " bytes");
        }
        if (x.look(12) != 12 || x.look(10) != 4) {
            wrong++;
            System.out.println("the texts were not told");
        }
        System.out.println("an object takes " + made + " bytes, its calls " + called);
        if (wrong != 0) System.exit(1);
    }
}
