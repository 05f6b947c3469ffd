import java.io.IOException;
import java.nio.file.Files;
import java.nio.file.Path;

/**
 * Each sentence of the document that names a boundary case (too small, too large, empty, full, a wrap-around,
 * a refused call) has a test of its own here, under its own words; the words are looked for in the document.
 */
public final class BoundariesTest {
    private static final int NONE = LetHorizon.NONE;
    private static final int[] FAR = {Integer.MIN_VALUE, Integer.MIN_VALUE + 1, -1000, Integer.MAX_VALUE, Integer.MAX_VALUE - 1};
    private static final Path DOCUMENT = Path.of("..", "shared", "DOC.md");

    private static String document = "";
    private static int wrong = 0;
    private static int made = 0;
    private static int sentences = 0;
    private static int madeAtSentence = 0;
    private static int promise = 0;
    private static String words = "";
    private static final boolean[] named = new boolean[37];

    private static void complain(String what) {
        wrong++;
        System.out.println("promise " + promise + ", \"" + words + "\": " + what);
    }

    /** What is looked at from here on would fail if these words of that promise (0: of the terms) were broken. */
    private static void sentence(int which, String said) {
        endSentence();
        sentences++;
        promise = which;
        words = said;
        named[which] = true;
        if (!document.isEmpty() && !document.contains(said)) complain("the document does not say so");
    }

    private static void endSentence() {
        if (sentences > 0 && made == madeAtSentence) complain("nothing was looked at");
        madeAtSentence = made;
    }

    private static void due(String call, long got, long want) {
        made++;
        if (got != want) complain(call + " answered " + got + ", due is " + want);
    }

    private static void due(String call, boolean got, boolean want) {
        due(call, got ? 1 : 0, want ? 1 : 0);
    }

    private static void feedText(LetHorizon x, String text) {
        x.end(0);
        for (int i = 0; i < text.length(); i += 20) {
            int[] v = new int[5];
            for (int j = 0; j < 20; j++) {
                v[j / 4] = v[j / 4] << 8 | (i + j < text.length() ? text.charAt(i + j) & 255 : ' ');
            }
            x.feed(v[0], v[1], v[2], v[3], v[4]);
        }
        x.end(text.length());
    }

    private static int tell(LetHorizon x, int k, String text) {
        feedText(x, text);
        return x.text(k);
    }

    private static void fine(LetHorizon x, int k, String text, int lines) {
        due("text(" + k + ") \"" + text + "\"", tell(x, k, text), lines);
        due("fault(0) of \"" + text + "\"", x.fault(0), 0);
        due("fault(1) of \"" + text + "\"", x.fault(1), NONE);
    }

    private static void faulty(LetHorizon x, int k, String text, int which, int place) {
        due("text(" + k + ") \"" + text + "\"", tell(x, k, text), NONE);
        due("fault(0) of \"" + text + "\"", x.fault(0), which);
        due("fault(1) of \"" + text + "\"", x.fault(1), place);
    }

    private static LetHorizon of(int... h) {
        LetHorizon x = new LetHorizon();
        x.sea(h.length);
        for (int c = 0; c < h.length; c++) x.raise(c, h[c]);
        return x;
    }

    /** A sea with a law and nothing that can be undone. */
    private static LetHorizon by(String law, int... h) {
        LetHorizon x = of(h);
        tell(x, 0, law);
        x.set(0, 0, 3);
        return x;
    }

    private static void goOn(LetHorizon x, int hour) {
        while (x.look(3) < hour) x.hours(Math.min(60, hour - x.look(3)));
    }

    private static int nextState(int state) {
        return 1664525 * state + 1013904223;
    }

    private static void bookLine(LetHorizon x, int i, int hour, int what, int which, int much) {
        due("book(" + i + ", 0)", x.book(i, 0), hour);
        due("book(" + i + ", 1)", x.book(i, 1), what);
        due("book(" + i + ", 2)", x.book(i, 2), which);
        due("book(" + i + ", 3)", x.book(i, 3), much);
    }

    /** All that can be seen of an object, as a text: what a refused call must leave as it is. */
    private static String seen(LetHorizon x) {
        StringBuilder all = new StringBuilder();
        for (int what = 0; what < 15; what++) all.append(x.look(what)).append(' ');
        for (int c = 0; c < 14; c++) {
            for (int what = 0; what < 6; what++) all.append(x.of(c, what)).append(' ');
        }
        for (int s = 0; s < 8; s++) {
            for (int what = 0; what < 3; what++) all.append(x.shipOf(s, what)).append(' ').append(x.pierOf(s, what)).append(' ');
        }
        for (int what = 0; what < 4; what++) all.append(x.book(x.look(8) - 1, what)).append(' ').append(x.meets(9, what)).append(' ');
        for (int what = 0; what < 3; what++) all.append(x.lifted(what)).append(' ');
        return all.append(x.fault(0)).append(' ').append(x.fault(1)).append(' ').append(x.goes(30, 0)).toString();
    }

    private static void leaves(String call, LetHorizon x, String before) {
        made++;
        String after = seen(x);
        if (!after.equals(before)) complain(call + " changed " + before + " to " + after);
    }

    /** An object in which something of each kind is, with something to undo. */
    private static LetHorizon busy() {
        LetHorizon x = of(10, 14, 9, 30, 0);
        x.state(4711);
        x.ship(1, 12);
        x.ship(3, 40);
        x.pier(2, 5);
        x.pier(4, 20);
        x.set(1, 0, 500);
        x.set(2, 3, 50);
        tell(x, 0, "wear 1+leans/4;slide 3 when column=1;sun 70-4*hour when column<3;");
        tell(x, 1, "at 2 lift 1;at 3 mend 3;");
        tell(x, 2, "pier 0 wants 9 from 0 to 23 pays 4;pier 1 wants 1 from 9 to 9 pays 5;");
        x.sunset(0, 15);
        x.hours(2);
        x.raise(0, 11);
        return x;
    }

    // The terms: what there is.

    private static void draws() {
        sentence(0, "STATE of draws (an int, 0 at first)");
        due("look(9)", new LetHorizon().look(9), 0);
        LetHorizon x = new LetHorizon();
        due("state(MIN)", x.state(Integer.MIN_VALUE), 0);
        due("state(MAX)", x.state(Integer.MAX_VALUE), Integer.MIN_VALUE);
        due("look(9)", x.look(9), Integer.MAX_VALUE);
        sentence(0, "it becomes 1664525 times itself + 1013904223 (ints, which wrap)");
        x.set(1, 0, 1);
        for (int state : new int[] {0, 1, -1, 1291, Integer.MAX_VALUE, Integer.MIN_VALUE, 987654321}) {
            x.state(state);
            x.hours(1);
            int first = nextState(state);
            boolean gust = (first >>> 8) % 1000 == 0;
            due("state after " + state, x.look(9), gust ? nextState(first) : first);
        }
        sentence(0, "then it is its highest 24 bits (without sign) modulo m.");
        boolean negativeSeen = false;
        for (int state = 0; state < 12; state++) {
            LetHorizon y = of(10, 10, 10, 10, 10);
            int before = y.look(8);
            y.set(1, 0, 1000);
            y.state(state);
            y.hours(1);
            int second = nextState(nextState(state));
            negativeSeen |= second < 0;
            due("column of the gust after " + state, y.book(before, 2), (second >>> 8) % 5);
        }
        due("some are below 0", negativeSeen, true);
    }

    private static void columns() {
        sentence(0, "(W 3 .. 14; 10 at first; told anew: all is as at first but W, STATE, the TAPE, fault() and THE IMAGE)");
        LetHorizon x = new LetHorizon();
        due("W at first", x.look(0), 10);
        for (int w = 3; w <= 14; w++) {
            due("sea(" + w + ")", x.sea(w), true);
            due("look(0)", x.look(0), w);
            due("the last column", x.of(w - 1, 0), 10);
            due("no more", x.of(w, 0), -2);
        }
        x = busy();
        tell(x, 0, "no");
        x.image(true);
        x.feed(1, 2, 3, 4, 5);
        int state = x.look(9);
        x.sea(5);
        LetHorizon first = new LetHorizon();
        first.sea(5);
        first.state(state);
        tell(first, 0, "no");
        leaves("sea: all else is as at first", x, seen(first));
        due("the tape stays", x.feed(0, 0, 0, 0, 0), 40);
        due("the image stays", x.image(false), true);
        due("its ships", x.look(1), 2);

        sentence(0, "HEIGHT 0 .. 40 (10 at first), WORN 0 .. 99 (0 at first).");
        x = new LetHorizon();
        for (int c = 0; c < 10; c++) {
            due("height", x.of(c, 0), 10);
            due("worn", x.of(c, 1), 0);
        }
        due("raise(0, 0)", x.raise(0, 0), 0);
        due("raise(0, 40)", x.raise(0, 40), 40);
        due("worn 0", x.set(2, 0, 0), true);
        due("worn 99", x.set(2, 0, 99), true);
        due("worn told", x.of(0, 1), 99);

        sentence(0, "STEEP 1 .. 9 (3 at first), GUSTS 0 .. 1000 (0 at first).");
        x = new LetHorizon();
        due("steep", x.look(4), 3);
        due("gusts", x.look(5), 0);
        for (int v : new int[] {1, 9}) due("steep " + v, x.set(0, 0, v) && x.look(4) == v, true);
        for (int v : new int[] {0, 10, -1}) due("steep " + v, x.set(0, 0, v), false);
        for (int v : new int[] {0, 1000}) due("gusts " + v, x.set(1, 0, v) && x.look(5) == v, true);
        for (int v : new int[] {-1, 1001}) due("gusts " + v, x.set(1, 0, v), false);

        sentence(0, "COIN (an int, 0 at first), BREAKS (0), HOUR 0 .. 9999 (0 at first).");
        x = new LetHorizon();
        for (int what : new int[] {6, 7, 3}) due("look(" + what + ")", x.look(what), 0);
        x.raise(0, 11);
        due("coin below 0", x.look(6), -1);
        goOn(x, 9999);
        due("hour 9999", x.look(3), 9999);
        due("not 10000", x.hours(1), NONE);
    }

    private static void shipsAndPiers() {
        sentence(0, "SHIPS 0 .. 7 as they come: AT a COLUMN, DRAUGHT 0 .. 40, SCRAPED (how often, 0 at first).");
        LetHorizon x = new LetHorizon();
        for (int s = 0; s < 8; s++) {
            due("ship " + s, x.ship(9 - s, 40 - 5 * s), s);
            due("scraped", x.shipOf(s, 2), 0);
        }
        due("at of the first", x.shipOf(0, 0), 9);
        due("at of the last", x.shipOf(7, 0), 2);
        due("draught 40", x.shipOf(0, 1), 40);
        due("no ship 8", x.ship(0, 0), NONE);
        due("draught 0", new LetHorizon().ship(0, 0), 0);

        sentence(0, "PIERS 0 .. 5 as they come: AT a COLUMN, EYE 0 .. 20.");
        for (int p = 0; p < 6; p++) due("pier " + p, x.pier(9 - p, 20 - 4 * p), p);
        due("at of the first", x.pierOf(0, 0), 9);
        due("eye 20", x.pierOf(0, 1), 20);
        due("eye 0", x.pierOf(5, 1), 0);
        due("no pier 6", x.pier(0, 0), NONE);
    }

    // The terms: texts.

    private static void textBounds() {
        sentence(0, "TEXTS (empty at first).");
        LetHorizon x = new LetHorizon();
        for (int what = 10; what <= 12; what++) due("look(" + what + ")", x.look(what), 0);
        for (int k = 0; k < 3; k++) due("an empty tape is an empty text " + k, x.text(k), 0);

        sentence(0, "(HOUR 0 .. 999; to 0 .. 40; lift, drop 1 .. 20.)");
        fine(x, 1, "at 0 lift 1;", 1);
        fine(x, 1, "at 999 lift 20;", 1);
        faulty(x, 1, "at 1000 lift 20;", 2, 3);
        faulty(x, 1, "at 9999 lift 20;", 2, 3);
        fine(x, 1, "at 0 set 0 to 0;at 0 set 0 to 40;", 2);
        faulty(x, 1, "at 0 set 0 to 41;", 2, 14);
        faulty(x, 1, "at 0 set 0 to 9999;", 2, 14);
        faulty(x, 1, "at 0 lift 0;", 2, 10);
        faulty(x, 1, "at 0 lift 21;", 2, 10);
        fine(x, 1, "at 0 drop 1;at 0 drop 20;", 2);
        faulty(x, 1, "at 0 drop 0;", 2, 10);
        faulty(x, 1, "at 0 drop 21;", 2, 10);

        sentence(0, "(a HEIGHT 0 .. 40; HOURS of a day 0 .. 23, the second one greater or alike; pays 0 .. 99.)");
        x = new LetHorizon();
        x.pier(0, 0);
        fine(x, 2, "pier 0 wants 0 from 0 to 0 pays 0;", 1);
        fine(x, 2, "pier 0 wants 40 from 23 to 23 pays 99;", 1);
        fine(x, 2, "pier 0 wants 40 from 0 to 23 pays 99;", 1);
        faulty(x, 2, "pier 0 wants 41 from 0 to 0 pays 0;", 2, 13);
        faulty(x, 2, "pier 0 wants 0 from 24 to 24 pays 0;", 2, 20);
        faulty(x, 2, "pier 0 wants 0 from 0 to 24 pays 0;", 2, 25);
        faulty(x, 2, "pier 0 wants 0 from 9 to 8 pays 0;", 2, 25);
        faulty(x, 2, "pier 0 wants 0 from 0 to 0 pays 100;", 2, 32);

        sentence(0, "16 lines of each at most, of WANTS 12.");
        x = new LetHorizon();
        x.pier(0, 0);
        fine(x, 0, "wear 1;".repeat(16), 16);
        fine(x, 1, "at 1 drop 1;".repeat(16), 16);
        fine(x, 2, "pier 0wants 1from 2to 3pays 4;".repeat(12), 12);
        faulty(x, 0, "wear 1;".repeat(17), 3, 112);
        faulty(x, 1, "at 1 drop 1;".repeat(17), 3, 192);
        faulty(x, 2, "pier 0wants 1from 2to 3pays 4;".repeat(13), 3, 360);
    }

    private static void tokenBounds() {
        sentence(0, "letters as many as stand together are KEYWORDS (those told here for that text) or none;");
        LetHorizon x = new LetHorizon();
        x.pier(0, 0);
        for (String law : "wears 1;|wea 1;|w 1;|wearwear 1;|WEAR 1;|wearz 1;|wearA 1;|wearZ 1;".split("\\|")) faulty(x, 0, law, 1, 0);
        faulty(x, 0, "wear heights;", 1, 5);
        faulty(x, 0, "wear heightworn;", 1, 5);
        faulty(x, 0, "wear 1 whennot 1=1;", 1, 7);
        fine(x, 0, "wear 1 when not(1=1)and not(1=1)or 1=1;", 1);
        faulty(x, 0, "wear 1 when set=1;", 1, 12);
        faulty(x, 0, "at 1;", 1, 0);
        faulty(x, 1, "wear 1;", 1, 0);
        faulty(x, 1, "pier 0 wants 1 from 1 to 1 pays 1;", 1, 0);
        faulty(x, 1, "at hour lift 1;", 1, 3);
        faulty(x, 2, "at 0 lift 1;", 1, 0);
        faulty(x, 2, "pier column wants 1 from 1 to 1 pays 1;", 1, 5);

        sentence(0, "digits as many as stand together NUMBERS of 1 to 4 digits or none;");
        fine(x, 0, "wear 0;wear 9999;wear 0000;", 3);
        faulty(x, 0, "wear 00000;", 1, 5);
        faulty(x, 0, "wear 10000;", 1, 5);
        faulty(x, 0, "wear 1+123456789012345678901234567890;", 1, 7);
        fine(x, 0, "wear 1when 1=1;", 1);
        due("four digits are one number", sunBy("sun 9 when 1234=1000+234;", 0), 9);
        due("noughts ahead", sunBy("sun 0042;", 0), 42);
        faulty(x, 0, "wear 1 2;", 1, 7);
        faulty(x, 1, "at 00001 lift 1;", 1, 3);
        fine(x, 1, "at 0001 lift 0020;", 1);
        faulty(x, 2, "pier 00000 wants 1 from 1 to 1 pays 1;", 1, 5);

        sentence(0, "; + - * / ( ) < = > . Blanks (32, 10) between.");
        fine(x, 0, "wear 1+2-3*4/5when(1<2)or 3=4 or 5>6;", 1);
        fine(x, 0, "\n  wear\n1\n+\n2 ;\n\n", 1);
        fine(x, 0, " ", 0);
        fine(x, 0, "\n", 0);
        for (int b = 0; b < 256; b++) {
            boolean known = b == ' ' || b == '\n' || "0123456789;+-*/".indexOf(b) >= 0;
            if (!known) faulty(x, 0, "wear 1 " + (char) b, 1, 7);
        }
        for (int b = 0; b < 256; b++) {
            boolean known = b == ' ' || b == '\n' || Character.isLetterOrDigit(b) && b < 128;
            if (!known) faulty(x, 1, "at" + (char) b + "0 lift 1;", 1, 2);
        }
        for (int b : new int[] {0, 9, 11, 12, 13, 31, 33, 127, 128, 133, 160, 255}) faulty(x, 0, "" + (char) b, 1, 0);

        sentence(0, "Ints, which wrap; / goes towards 0.");
        int wrapped = 9999 * 9999 * 9999;
        due("a product that wraps", sunBy("sun 7 when 9999*9999*9999" + (wrapped < 0 ? "<" : ">") + "0;sun 8;", 0), 7);
        due("a sum that wraps", sunBy("sun 7 when 9999*9999*21+9999*9999<0;sun 8;", 0), 7);
        due("wraps back", sunBy("sun 9999*9999*21+9999*9999-9999*9999-9999*9999*21+5;", 0), 5);
        due("the least int", sunBy("sun 3 when 0-8192*8192*32=8192*8192*32 and 8192*8192*32<0;sun 4;", 0), 3);
        due("a part of the least int", sunBy("sun 3 when 8192*8192*32/8192/8192=0-32;sun 4;", 0), 3);
        due("the least int by 1", sunBy("sun 3 when 8192*8192*32/1<0;sun 4;", 0), 3);
        due("towards 0 above", sunBy("sun 7/2;", 0), 3);
        due("towards 0 below", sunBy("sun 3 when 8192*8192*32/9999=0-9999*21-4790;sun 4;", 0), 3);
        due("twice towards 0 below", sunBy("sun 3 when 8192*8192*32/9999/1000=0-214;sun 4;", 0), 3);
    }

    private static int sunBy(String law, int hour) {
        LetHorizon x = new LetHorizon();
        due("text(0) \"" + law + "\"", tell(x, 0, law) > 0, true);
        return x.sun(0, hour);
    }

    private static void faultBounds() {
        sentence(0, "FAULTS, the first by its place, at one place the least:");
        LetHorizon x = of(10, 10, 10);
        x.pier(0, 0);
        faulty(x, 0, "wear 1/0 wear", 2, 7);
        faulty(x, 0, "wear wear 1/0;", 1, 5);
        faulty(x, 0, "wear 1;".repeat(15) + "wear 1/0;wear 1;", 2, 112);
        faulty(x, 0, "wear 1;".repeat(16) + "wear 1/0;", 3, 112);
        faulty(x, 0, "wear 1;".repeat(16) + "at", 1, 112);
        faulty(x, 0, "wear 1 when 1=1 " + "(".repeat(9), 1, 16);
        faulty(x, 0, "wear 1 when " + "(".repeat(8) + "1 (", 1, 22);
        faulty(x, 0, "wear 1 when " + "(".repeat(8) + "1=1 not", 1, 24);
        faulty(x, 1, "at 1000 wear 1;", 2, 3);
        faulty(x, 1, "at 10000 lift 99;", 1, 3);
        faulty(x, 1, "at 1 lift 1;".repeat(16) + "lift 1;", 1, 192);
        faulty(x, 2, "pier 9 wants 99 from 99 to 99 pays 999;", 2, 5);
        faulty(x, 2, "pier 0 wants 99 from 99 to 99 pays 999;", 2, 13);
        faulty(x, 2, "pier 0wants 1from 2to 3pays 4;".repeat(12) + "wants", 1, 360);

        sentence(0, "1 what can't stand there (the end: the text's length).");
        faulty(x, 0, "wear", 1, 4);
        faulty(x, 0, "wear   ", 1, 7);
        faulty(x, 0, "wear 1\n", 1, 7);
        faulty(x, 0, "wear 1 when", 1, 11);
        faulty(x, 0, "wear 1 when (1=1", 1, 16);
        faulty(x, 0, "wear 1 when 1=1)", 1, 15);
        faulty(x, 0, ";", 1, 0);
        faulty(x, 0, "wear 1;;", 1, 7);
        faulty(x, 0, "wear (1);", 1, 5);
        faulty(x, 0, "wear -1;", 1, 5);
        faulty(x, 0, "wear 1/column;", 1, 7);
        faulty(x, 0, "wear 1 when 1;", 1, 13);
        faulty(x, 0, "wear 1 when (1)=1;", 1, 14);
        faulty(x, 0, "wear 1 when 1=2=3;", 1, 15);
        faulty(x, 0, "wear 1 when 1=1 when 1=1;", 1, 16);
        String full = "wear 1" + "+1".repeat(197);
        due("400 bytes without a ;", full.length(), 400);
        faulty(x, 0, full, 1, 400);
        faulty(x, 1, "at 0 set 0", 1, 10);
        faulty(x, 1, "at 0 set 0 to 1 ", 1, 16);
        faulty(x, 1, "at 0 mend 0 to 1;", 1, 12);
        faulty(x, 1, "at 0 lift 1 to 1;", 1, 12);
        faulty(x, 2, "pier 0 wants 1 from 1 to 1 pays 1", 1, 33);
        faulty(x, 2, "pier 0 wants 1 to 1 from 1 pays 1;", 1, 15);

        sentence(0, "2 (at the NUMBER) a part by 0;");
        faulty(x, 0, "wear 1/0;", 2, 7);
        faulty(x, 0, "wear 1/ 0000;", 2, 8);
        faulty(x, 0, "wear 1/2/0;", 2, 9);
        faulty(x, 0, "wear 1 when 1/0=1;", 2, 14);
        faulty(x, 0, "wear 1 when 1=1/0;", 2, 16);
        faulty(x, 0, "wear 1;wear 0/0;", 2, 14);
        fine(x, 0, "wear 0/1;wear 0*0;", 2);

        sentence(0, "one beyond its bounds; a COLUMN, a PIER that there is not; a second HOUR that is less.");
        faulty(x, 1, "at 1 set 3 to 1;", 2, 9);
        faulty(x, 1, "at 1 mend 3;", 2, 10);
        fine(x, 1, "at 1 set 2 to 1;at 1 mend 2;", 2);
        faulty(x, 1, "at 1 mend 9999;", 2, 10);
        faulty(x, 2, "pier 1 wants 1 from 1 to 1 pays 1;", 2, 5);
        fine(x, 2, "pier 0 wants 1 from 1 to 1 pays 1;", 1);
        x.pier(1, 1);
        fine(x, 2, "pier 1 wants 1 from 1 to 1 pays 1;", 1);
        faulty(x, 2, "pier 2 wants 1 from 1 to 1 pays 1;", 2, 5);
        faulty(new LetHorizon(), 2, "pier 0 wants 1 from 1 to 1 pays 1;", 2, 5);
        faulty(x, 2, "pier 0 wants 1 from 23 to 22 pays 1;", 2, 26);
        faulty(x, 2, "pier 0 wants 1 from 1 to 0 pays 1;", 2, 25);
        x = new LetHorizon();
        fine(x, 1, "at 1 set 9 to 1;", 1);
        faulty(x, 1, "at 1 set 10 to 1;", 2, 9);
        x.sea(14);
        fine(x, 1, "at 1 mend 13;", 1);
        faulty(x, 1, "at 1 mend 14;", 2, 10);

        sentence(0, "3 (at its KEYWORD) the 17th line of a text, the 13th one of WANTS;");
        x = new LetHorizon();
        x.pier(0, 0);
        fine(x, 0, "sun 1;".repeat(16) + "\n", 16);
        faulty(x, 0, "sun 1;".repeat(16) + "  slide 1;", 3, 98);
        faulty(x, 0, "sun 1;".repeat(16) + "cost", 3, 96);
        faulty(x, 1, "at 1 lift 1;".repeat(16) + "\nat 1 lift 1;", 3, 193);
        faulty(x, 2, "pier 0wants 1from 2to 3pays 4;".repeat(12) + " pier", 3, 361);

        sentence(0, "(at it) the 9th ( or not that is open.");
        fine(x, 0, "sun 1 when " + "(".repeat(8) + "1=1" + ")".repeat(8) + ";", 1);
        fine(x, 0, "sun 1 when " + "not ".repeat(8) + "1=1;", 1);
        fine(x, 0, "sun 1 when " + "not(".repeat(4) + "1=1" + ")".repeat(4) + ";", 1);
        faulty(x, 0, "sun 1 when " + "(".repeat(9) + "1=1" + ")".repeat(9) + ";", 3, 19);
        faulty(x, 0, "sun 1 when " + "not ".repeat(9) + "1=1;", 3, 43);
        faulty(x, 0, "sun 1 when " + "not(".repeat(4) + "(1=1)" + ")".repeat(4) + ";", 3, 27);
        faulty(x, 0, "sun 1 when " + "(not ".repeat(4) + "not 1=1" + ")".repeat(4) + ";", 3, 31);
        fine(x, 0, "sun 1 when " + "(1=1)and not 1=1 or ".repeat(9) + "1=1;", 1);
        fine(x, 0, "sun 1 when " + "not ".repeat(8) + "1=1 and " + "not ".repeat(8) + "1=1;", 1);
        fine(x, 0, "sun 1 when not (" + "not ".repeat(6) + "1=1 and " + "(".repeat(6) + "1=1" + ")".repeat(6) + ");", 1);
        faulty(x, 0, "sun 1 when not (" + "not ".repeat(6) + "1=1 and " + "(".repeat(7) + "1=1", 3, 54);
    }

    private static void lawBounds() {
        sentence(0, "E of the first line with that word whose B is so, or that has none "
            + "(none: wear: leans, slide 2, cost: by, sun: 60 less 3 times hour)");
        LetHorizon x = of(10, 16, 10);
        int[] first = {x.of(0, 2), x.of(0, 3), x.costs(0, 17), x.sun(0, 9)};
        due("wear: leans", first[0], 6);
        due("slide 2", first[1], 2);
        due("cost: by", first[2], 7);
        due("sun", first[3], 33);
        tell(x, 0, "wear 9 when 1=2;slide 9 when 1=2;cost 9 when 1=2;sun 9 when 1=2;");
        due("no line is so: wear", x.of(0, 2), 6);
        due("no line is so: slide", x.of(0, 3), 2);
        due("no line is so: cost", x.costs(0, 17), 7);
        due("no line is so: sun", x.sun(0, 9), 33);
        tell(x, 0, "slide 8;wear 5 when column=1;wear 4;wear 3 when column=0;");
        due("the first that has none", x.of(0, 2), 4);
        due("the first that is so", x.of(1, 2), 5);
        due("no line for sun", x.sun(0, 9), 33);
        due("a line for slide", x.of(2, 3), 8);

        sentence(0, "wear held to 0 .. 99, slide to 0 .. 40, cost to 0 .. 999, sun to 0 .. 99:");
        String[] words = {"wear", "slide", "cost", "sun"};
        int[] most = {99, 40, 999, 99};
        for (int i = 0; i < 4; i++) {
            due(words[i] + " below 0", told(words[i] + " 0-1;", i), 0);
            due(words[i] + " far below 0", told(words[i] + " 8192*8192*32;", i), 0);
            due(words[i] + " 0", told(words[i] + " 0;", i), 0);
            due(words[i] + " at most", told(words[i] + " " + most[i] + ";", i), most[i]);
            due(words[i] + " one more", told(words[i] + " " + (most[i] + 1) + ";", i), most[i]);
            due(words[i] + " far above", told(words[i] + " 8192*8192*32-1;", i), most[i]);
        }
        due("sun at hour 20", new LetHorizon().sun(0, 20), 0);
        due("sun at hour 21 is not below 0", new LetHorizon().sun(0, 21), 0);

        sentence(0, "B = A {or A}. A = C {and C}.");
        for (int bits = 0; bits < 16; bits++) {
            String[] c = new String[4];
            boolean[] so = new boolean[4];
            for (int i = 0; i < 4; i++) {
                so[i] = (bits >> i & 1) == 1;
                c[i] = so[i] ? "1=1" : "1=2";
            }
            due("or or or " + bits, isSo(c[0] + " or " + c[1] + " or " + c[2] + " or " + c[3]), so[0] || so[1] || so[2] || so[3]);
            due("and and and " + bits, isSo(c[0] + " and " + c[1] + " and " + c[2] + " and " + c[3]), so[0] && so[1] && so[2] && so[3]);
            due("and or and " + bits, isSo(c[0] + " and " + c[1] + " or " + c[2] + " and " + c[3]), so[0] && so[1] || so[2] && so[3]);
            due("or and or " + bits, isSo(c[0] + " or " + c[1] + " and " + c[2] + " or " + c[3]), so[0] || so[1] && so[2] || so[3]);
            due("(or) and (or) " + bits, isSo("(" + c[0] + " or " + c[1] + ") and (" + c[2] + " or " + c[3] + ")"),
                (so[0] || so[1]) && (so[2] || so[3]));
            due("not ( or not and ) " + bits, isSo("not (" + c[0] + " or not " + c[1] + " and " + c[2] + ") or " + c[3]),
                !(so[0] || !so[1] && so[2]) || so[3]);
        }

        sentence(0, "hour: HOUR modulo 24; day: HOUR by 24;");
        x = by("wear hour;slide day;", 10, 10, 10);
        for (int hour : new int[] {0, 1, 23, 24, 25, 47, 48, 959}) {
            x.sea(3);
            tell(x, 0, "wear hour*0;");
            goOn(x, hour);
            tell(x, 0, "wear hour;slide day;cost day;");
            due("hour at " + hour, x.of(0, 2), hour % 24);
            due("day at " + hour, x.of(0, 3), Math.min(40, hour / 24));
            due("day at " + hour, x.costs(0, 9), hour / 24);
        }

        sentence(0, "leans: how far apart it is from the one beside it from which it is farthest;");
        x = of(0, 40, 38, 38, 20);
        int[] leans = {40, 40, 2, 18, 18};
        for (int c = 0; c < 5; c++) due("leans of " + c, x.of(c, 5), leans[c]);
        due("of three", of(10, 7, 12).of(1, 5), 5);
        due("of three", of(10, 4, 12).of(0, 5), 6);
        due("of fourteen", of(1, 1, 1, 1, 1, 1, 1, 1, 1, 1, 1, 1, 1, 9).of(13, 5), 8);
        due("nothing beyond the rim", of(9, 9, 9).of(2, 5), 0);

        sentence(0, "by: how far it is raised (wear, slide, sun: 0).");
        x = by("wear 5+by;slide 6+by;sun 7+by;cost 8+by;", 10, 10, 10);
        due("cost", x.costs(0, 15), 13);
        due("wear behind a cost", x.of(0, 2), 5);
        due("slide", x.of(0, 3), 6);
        due("sun", x.sun(0, 9), 7);

        sentence(0, "sun: of a COLUMN too (worn, leans as they are); its hour is the one asked for.");
        x = by("sun worn+hour+leans when column=1;sun 1;", 10, 14, 10);
        x.set(2, 1, 20);
        due("at 0", x.sun(1, 0), 24);
        due("at 23", x.sun(1, 23), 47);
        due("of another column", x.sun(2, 23), 1);
    }

    private static boolean isSo(String condition) {
        return told("sun 7 when " + condition + ";sun 8;", 3) == 7;
    }

    /** What the law tells of the word with that number, of column 0 of ten. */
    private static int told(String law, int word) {
        LetHorizon x = new LetHorizon();
        tell(x, 0, law);
        switch (word) {
            case 0: return x.of(0, 2);
            case 1: return x.of(0, 3);
            case 2: return x.costs(0, 20);
            default: return x.sun(0, 5);
        }
    }

    // The terms: what is done.

    private static void workBounds() {
        sentence(0, "COIN is cost less (by: N less HEIGHT, 0 at least; asked ahead);");
        LetHorizon x = by("cost 100*by+height+leans;", 10, 10, 10);
        due("as high as it is: by 0", x.raise(0, 10) == 10 && x.look(6) == -10, true);
        due("lower: by 0", x.raise(0, 4) == 4 && x.look(6) == -20, true);
        due("higher, with height and leans ahead", x.raise(0, 5) == 5 && x.look(6) == -20 - 100 - 4 - 6, true);

        sentence(0, "HEIGHT is N; no more than 40 less WORN by 4.");
        int[][] wornMost = {{0, 40}, {3, 40}, {4, 39}, {7, 39}, {8, 38}, {95, 17}, {96, 16}, {98, 16}};
        for (int[] v : wornMost) {
            x = of(10, 10, 10);
            x.set(2, 1, v[0]);
            due("worn " + v[0] + ", to 40", x.raise(1, 40), v[1]);
            due("worn " + v[0] + ", just to its most", x.raise(1, v[1]), v[1]);
            due("worn " + v[0] + ", below its most", x.raise(1, v[1] - 1), v[1] - 1);
            due("what is asked is paid", x.look(6), -30);
        }
        x = of(10, 40, 10);
        x.set(2, 1, 99);
        due("wearing alone does not lower", x.of(1, 0), 40);
        due("setting lower stays above", x.raise(1, 30), 16);

        sentence(0, "COLUMN by COLUMN as if it were set to HEIGHT and n, less n (0 .. 40).");
        x = of(0, 1, 20, 39, 40);
        due("up costs 1 and 1 and 1 and 1", x.lift(1), 4);
        int[] up = {1, 2, 21, 40, 40};
        for (int c = 0; c < 5; c++) due("up " + c, x.of(c, 0), up[c]);
        due("twenty more", x.lift(20), 20 + 20 + 19);
        due("down", x.lift(-20), 0);
        int[] down = {1, 2, 20, 20, 20};
        for (int c = 0; c < 5; c++) due("down " + c, x.of(c, 0), down[c]);
        x.lift(-20);
        for (int c = 0; c < 5; c++) due("0 at least " + c, x.of(c, 0), 0);
        x = by("cost leans;", 10, 10, 10);
        due("the next leans on what was set", x.lift(5), 0 + 5 + 5);
        x = of(40, 10, 10);
        x.set(2, 0, 99);
        due("a worn one comes down when it is lifted", x.lift(1), 2);
        due("to its most", x.of(0, 0), 16);
        x = by("cost by+1;", 40, 40, 40);
        due("held at 40: by 0", x.lift(20), 3);

        sentence(0, "To MEND: WORN is 0, COIN is WORN less.");
        for (int worn : new int[] {0, 1, 99}) {
            x = of(10, 10, 10);
            x.set(2, 2, worn);
            due("mend", x.mend(2), worn);
            due("worn", x.of(2, 1), 0);
            due("coin", x.look(6), -worn);
            due("height stays", x.of(2, 0), 10);
        }
    }

    private static void hourBounds() {
        sentence(0, "(a) Line by line of A ROSTER for this HOUR.");
        LetHorizon x = of(10, 10, 10);
        tell(x, 1, "at 999 lift 3;at 0 set 1 to 20;at 0 lift 1;at 0 set 1 to 11;at 24 drop 2;");
        x.hours(1);
        due("the last line at 0", x.of(1, 0), 11);
        due("the second line at 0", x.of(0, 0), 11);
        due("all of them cost", x.look(6), -10 - 3);
        x.hours(23);
        due("24 not yet", x.of(0, 0), 11);
        x.hours(1);
        due("24", x.of(0, 0), 9);
        goOn(x, 999);
        due("999 not yet", x.of(0, 0), 9);
        x.hours(1);
        due("999", x.of(0, 0), 12);

        sentence(0, "of the COLUMNS beside the one at which it is the lower one (alike: the one below by number), "
            + "if it is lower by more than slide of the one at which it is (asked): it is there.");
        due("alike", slidTo(1, 7, 10, 7), 0);
        due("the upper is lower", slidTo(1, 7, 10, 6), 2);
        due("the one below is lower", slidTo(1, 6, 10, 7), 0);
        due("lower by just slide", slidTo(1, 8, 10, 9), 1);
        due("lower by one more", slidTo(1, 7, 10, 9), 0);
        due("none is lower", slidTo(1, 10, 10, 10), 1);
        due("both are higher", slidTo(1, 20, 10, 20), 1);
        due("at the lower rim", slidTo(0, 10, 7, 10), 1);
        due("at the lower rim, just slide", slidTo(0, 10, 8, 10), 0);
        due("at the upper rim", slidTo(2, 10, 7, 10), 1);
        due("at the upper rim, just slide", slidTo(2, 10, 8, 10), 2);
        due("one column an hour", slidTo(0, 30, 20, 10), 1);
        due("nothing lies beyond the upper rim", slidTo(2, 20, 25, 20), 2);
        due("nothing lies beyond the lower rim", slidTo(0, 20, 25, 20), 0);
        due("the upper rim of fourteen", slidTo(13, 9, 9, 9, 9, 9, 9, 9, 9, 9, 9, 9, 9, 9, 12), 12);
        x = by("wear 0;slide 40 when column=1;slide 0;", 10, 10, 9);
        x.ship(1, 0);
        x.ship(2, 0);
        x.ship(0, 0);
        x.hours(1);
        due("slide of the one at which it is", x.shipOf(0, 0), 1);
        x.raise(0, 11);
        x.hours(1);
        due("slide 0: lower by one", x.shipOf(2, 0), 1);
        due("slide 0: not lower", x.shipOf(1, 0), 2);

        sentence(0, "is HEIGHT of its COLUMN less than DRAUGHT: SCRAPED one more.");
        x = of(10, 10, 10);
        x.ship(0, 10);
        x.ship(1, 11);
        x.ship(2, 40);
        int before = x.look(8);
        x.hours(1);
        int[] scraped = {0, 1, 1};
        for (int s = 0; s < 3; s++) due("scraped " + s, x.shipOf(s, 2), scraped[s]);
        bookLine(x, before, 0, 3, 1, 1);
        bookLine(x, before + 1, 0, 3, 2, 30);
        x.hours(60);
        due("hour by hour", x.shipOf(2, 2), 61);
        x = of(10, 10, 10, 10, 10, 10, 10, 10, 10, 10, 10, 10, 10, 10);
        for (int s = 0; s < 8; s++) x.ship(13 - s, 11);
        due("eight ships in thought", x.goes(2, 1), 16);
        x.hours(1);
        for (int s = 0; s < 8; s++) due("eight ships: " + s, x.shipOf(s, 2), 1);

        sentence(0, "(d) Line by line of WANTS for this hour of the day (both HOURS too): "
            + "is HEIGHT of the PIER's COLUMN just what is wanted, COIN is so much more.");
        x = of(10, 10, 10);
        x.pier(0, 0);
        tell(x, 2, "pier 0 wants 10 from 22 to 23 pays 99;pier 0 wants 10 from 0 to 1 pays 1;"
            + "pier 0 wants 9 from 0 to 23 pays 7;pier 0 wants 11 from 0 to 23 pays 7;");
        int[] pays = {1, 1, 0, 0, 99, 99, 1, 1, 0};
        int[] hours = {0, 1, 2, 21, 22, 23, 24, 25, 26};
        for (int i = 0; i < hours.length; i++) {
            goOn(x, hours[i]);
            int coin = x.look(6);
            x.hours(1);
            due("paid at " + hours[i], x.look(6) - coin, pays[i]);
        }

        sentence(0, "(e) COLUMN by COLUMN with HEIGHT above 0: WORN is wear more (99 at most; asked at its turn); "
            + "at 99 it BREAKS: HEIGHT 0, WORN 0.");
        x = by("wear 5;", 0, 1, 40);
        x.set(2, 0, 99);
        x.set(2, 1, 93);
        x.set(2, 2, 94);
        before = x.look(8);
        x.hours(1);
        due("height 0 is left as it is", x.of(0, 1), 99);
        due("98 does not break", x.of(1, 1), 98);
        due("98 does not break", x.of(1, 0), 1);
        due("99 breaks: height", x.of(2, 0), 0);
        due("99 breaks: worn", x.of(2, 1), 0);
        due("breaks", x.look(7), 1);
        bookLine(x, before, 0, 5, 2, 40);
        x.hours(1);
        due("99 at most: breaks", x.of(1, 0), 0);
        due("breaks", x.look(7), 2);
        x = by("wear leans;", 10, 10, 10);
        x.set(2, 0, 99);
        x.hours(1);
        due("the next leans on the broken one at its turn", x.of(1, 1), 10);
        due("the third does not", x.of(2, 1), 0);
        x = by("wear worn;", 10, 10, 10);
        x.set(2, 1, 49);
        x.hours(1);
        due("49 and 49", x.of(1, 1), 98);
        x.hours(1);
        due("98 and 98", x.of(1, 0), 0);
    }

    /** Where a ship that lies there is an hour later. */
    private static int slidTo(int at, int... h) {
        LetHorizon x = of(h);
        x.ship(at, 0);
        x.hours(1);
        return x.shipOf(0, 0);
    }

    private static void gustBounds() {
        sentence(0, "(f) If GUSTS are above 0, a DRAW of 1000: below GUSTS a DRAW of W:");
        LetHorizon x = new LetHorizon();
        x.hours(5);
        due("no gusts, no draw", x.look(9), 0);
        int first = nextState(0);
        int drawn = (first >>> 8) % 1000;
        due("not at the rim", drawn > 0 && drawn < 999, true);
        for (int gusts : new int[] {1, drawn - 1, drawn, drawn + 1, 999, 1000}) {
            x = new LetHorizon();
            x.set(1, 0, gusts);
            x.hours(1);
            boolean gust = drawn < gusts;
            due("state with gusts " + gusts, x.look(9), gust ? nextState(first) : first);
            due("book with gusts " + gusts, x.look(8), gust ? 1 : 0);
        }
        for (int w = 3; w <= 14; w++) {
            x = new LetHorizon();
            x.sea(w);
            x.set(1, 0, 1000);
            x.hours(1);
            due("a draw of W " + w, x.book(0, 2), (nextState(first) >>> 8) % w);
        }

        sentence(0, "HEIGHT of that COLUMN is one less (0 at least).");
        for (int h : new int[] {0, 1, 2, 40}) {
            x = of(h, h, h);
            int before = x.look(8);
            x.set(1, 0, 1000);
            x.hours(1);
            int c = (nextState(first) >>> 8) % 3;
            due("height", x.of(c, 0), Math.max(0, h - 1));
            due("the others", x.of((c + 1) % 3, 0) + x.of((c + 2) % 3, 0), 2 * h);
            bookLine(x, before, 0, 6, c, Math.max(0, h - 1));
        }
    }

    private static void bookBounds() {
        sentence(0, "By hand: to SET, to LIFT (n below 0: to DROP), to MEND, as told there.");
        LetHorizon x = of(10, 10, 10);
        due("lift(1)", x.lift(1), 3);
        due("lift(-1)", x.lift(-1), 0);
        due("as ahead", x.of(0, 0), 10);
        due("lift(-20)", x.lift(-20), 0);
        due("0 at least", x.of(0, 0), 0);

        sentence(0, "THE BOOK (150 lines; no more then):");
        x = new LetHorizon();
        for (int i = 0; i < 14; i++) x.lift(i % 2 == 0 ? 1 : -1);
        due("140", x.look(8), 140);
        for (int i = 0; i < 9; i++) x.raise(i, 20 + i);
        due("149", x.look(8), 149);
        x.mend(3);
        due("150", x.look(8), 150);
        bookLine(x, 149, 0, 1, 3, 0);
        x.raise(0, 7);
        due("no more then", x.look(8), 150);
        bookLine(x, 149, 0, 1, 3, 0);
        due("no line 150", x.book(150, 0), NONE);
        due("done all the same", x.of(0, 0), 7);
        x.hours(1);
        due("hours go on", x.look(3), 1);
        x = new LetHorizon();
        x.ship(0, 40);
        x.hours(60);
        x.hours(60);
        x.hours(29);
        due("149 scraped", x.look(8), 149);
        x.lift(1);
        due("a lift is cut off", x.look(8), 150);
        bookLine(x, 149, 149, 0, 0, 11);
        due("all are lifted", x.of(9, 0), 11);

        sentence(0, "(LIFT, DROP: a line for each COLUMN, set.)");
        x = of(0, 40, 10);
        int before = x.look(8);
        x.lift(1);
        x.lift(-20);
        due("six lines, also where nothing moved", x.look(8), before + 6);
        int[] then = {1, 40, 11, 0, 20, 0};
        for (int i = 0; i < 6; i++) bookLine(x, before + i, 0, 0, i % 3, then[i]);
    }

    // The terms: in thought.

    private static void goesBounds() {
        sentence(0, "IN THOUGHT (nothing of it stays; no DRAWS: no gusts).");
        LetHorizon x = busy();
        x.set(1, 0, 1000);
        String before = seen(x);
        for (int n : new int[] {1, 99}) {
            for (int what = 0; what < 5; what++) x.goes(n, what);
        }
        leaves("goes", x, before);
        x = new LetHorizon();
        x.set(1, 0, 1000);
        x.ship(0, 10);
        due("no gust scrapes it", x.goes(99, 1), 0);
        due("state", x.look(9), 0);

        sentence(0, "GOES for n (1 .. 99) HOURS:");
        x = new LetHorizon();
        x.ship(0, 40);
        due("1", x.goes(1, 1), 1);
        due("99", x.goes(99, 1), 99);
        due("0", x.goes(0, 1), -100000);
        due("100", x.goes(100, 1), -100000);

        sentence(0, "the first SHIP that SCRAPES in these (of several at one hour the least), "
            + "the COLUMN that BREAKS first (likewise).");
        x = of(10, 10, 10);
        due("no ship", x.goes(99, 3), NONE);
        due("no column breaks", x.goes(99, 4), NONE);
        x.ship(0, 12);
        x.ship(1, 11);
        x.ship(2, 40);
        tell(x, 1, "at 0 lift 4;at 1 drop 3;at 2 drop 1;at 4 set 0 to 12;");
        due("ship 2 at hour 0 already", x.goes(1, 3), 2);
        due("the earliest, not the least", x.goes(9, 3), 2);
        x = of(10, 10, 10);
        x.ship(0, 12);
        x.ship(1, 11);
        x.ship(2, 11);
        tell(x, 1, "at 0 lift 2;at 3 drop 2;");
        due("none in three hours", x.goes(3, 3), NONE);
        due("three at one hour: the least", x.goes(4, 3), 0);
        x = by("slide 40;wear 0;", 10, 10, 10);
        x.ship(2, 40);
        x.hours(3);
        x.set(3, 0, 1);
        x.raise(1, 40);
        due("earlier ones are not in these", x.goes(1, 3), NONE);
        x = by("wear 1 when column=0;wear 2;", 10, 10, 10);
        x.set(2, 0, 97);
        x.set(2, 1, 95);
        x.set(2, 2, 95);
        due("one hour: none", x.goes(1, 4), NONE);
        due("three at the second hour: the least", x.goes(2, 4), 0);
        x.set(2, 0, 96);
        due("two at the second hour: the least of them", x.goes(3, 4), 1);
        due("how many then", x.goes(3, 2), 3);
    }

    private static void meetsBounds() {
        sentence(0, "no two COLUMNS side by side more than STEEP apart (nor two HEIGHTS for one):");
        LetHorizon x = new LetHorizon();
        x.pier(0, 0);
        x.pier(1, 0);
        x.pier(9, 0);
        x.pier(0, 9);
        tell(x, 2, "pier 0 wants 10 from 0 to 9 pays 1;pier 1 wants 13 from 0 to 0 pays 1;pier 1 wants 14 from 1 to 1 pays 1;"
            + "pier 2 wants 37 from 2 to 2 pays 1;pier 2 wants 38 from 3 to 3 pays 1;pier 3 wants 10 from 4 to 4 pays 1;"
            + "pier 3 wants 11 from 5 to 5 pays 1;");
        int[] sums = {2, 1, 2, 1, 2, 1};
        String[] cases = {"just steep", "one more", "nine columns, just steep", "nine columns, one more",
            "one column alike", "one column, two heights"};
        for (int hour = 0; hour < 6; hour++) {
            due(cases[hour], x.meets(hour, 0), sums[hour]);
            due(cases[hour], x.meets(hour, 2), sums[hour] == 2 ? NONE : 0);
        }
        x.set(0, 0, 9);
        due("less steep", x.meets(1, 0), 2);
        due("one column, two heights still", x.meets(5, 0), 1);
        tell(x, 2, "pier 0 wants 40 from 0 to 0 pays 1;pier 2 wants 0 from 0 to 0 pays 1;");
        due("whatever heights there are else", x.meets(0, 0), 2);

        sentence(0, "the greatest sum of what they pay; the set of lines (of several the least).");
        due("no lines for it: the sum", x.meets(20, 0), 0);
        due("no lines for it: the set", x.meets(20, 1), 0);
        tell(x, 2, "pier 0 wants 1 from 0 to 0 pays 5;pier 0 wants 2 from 0 to 0 pays 5;pier 0 wants 3 from 0 to 0 pays 4;");
        due("alike: the least set", x.meets(0, 1), 1);
        tell(x, 2, "pier 0 wants 1 from 0 to 0 pays 4;pier 0 wants 2 from 0 to 0 pays 5;pier 0 wants 3 from 0 to 0 pays 5;");
        due("the greatest sum ahead of the least set", x.meets(0, 1), 2);
        tell(x, 2, "pier 0 wants 1 from 0 to 0 pays 0;pier 0 wants 1 from 0 to 0 pays 0;");
        due("what pays 0 is not in the least set", x.meets(0, 1), 0);
        tell(x, 2, "pier 0wants 1from 0to 0pays 99;".repeat(12));
        due("twelve lines", x.meets(0, 0), 1188);
        due("twelve lines", x.meets(0, 1), 4095);

        sentence(0, "CLASH: the first couple of these lines (by the first, then the second) that can't be met together.");
        due("none", x.meets(0, 2), NONE);
        due("none", x.meets(0, 3), NONE);
        tell(x, 2, "pier 0 wants 1 from 1 to 9 pays 0;pier 1 wants 1 from 0 to 9 pays 0;pier 0 wants 1 from 0 to 9 pays 0;"
            + "pier 0 wants 2 from 5 to 9 pays 0;pier 1 wants 40 from 0 to 5 pays 0;");
        due("of the lines of hour 0 alone", x.meets(0, 2), 1);
        due("of the lines of hour 0 alone", x.meets(0, 3), 4);
        due("hour 5: by the first", x.meets(5, 2), 0);
        due("hour 5: then the second", x.meets(5, 3), 3);
        due("hour 4", x.meets(4, 2), 0);
        due("hour 4", x.meets(4, 3), 4);
        due("hour 23", x.meets(23, 2), NONE);
    }

    private static void smoothBounds() {
        sentence(0, "SMOOTH: the fewest feet by which COLUMNS are changed in all so that no two side by side "
            + "are more than STEEP apart;");
        due("smooth already, just steep", of(10, 13, 10).smooth(0), 0);
        due("one foot more", of(10, 14, 10).smooth(0), 1);
        due("from 0 to 40", of(0, 40, 0).smooth(0), 37);
        due("from 40 to 0", of(40, 0, 40).smooth(0), 37);
        LetHorizon x = of(0, 40, 0, 40, 0, 40, 0, 40, 0, 40, 0, 40, 0, 40);
        x.set(0, 0, 9);
        due("fourteen, steep 9", x.smooth(0), 7 * 31);
        x.set(0, 0, 1);
        due("fourteen, steep 1", x.smooth(0), 7 * 39);

        sentence(0, "what a COLUMN is then: of several ways the first (COLUMN by COLUMN, the lesser).");
        int[][] ways = {{10, 14, 14, 10, 13, 14}, {14, 14, 10, 14, 13, 10}, {14, 10, 10, 13, 10, 10}};
        for (int[] v : ways) {
            x = of(v[0], v[1], v[2]);
            due("feet", x.smooth(0), 1);
            for (int c = 0; c < 3; c++) due("the lesser first, column " + c, x.smooth(10 + c), v[3 + c]);
        }
        x = of(10, 10, 10);
        for (int c = 0; c < 3; c++) due("as it is", x.smooth(10 + c), 10);

        sentence(0, "FOLDS: COLUMNS lower than each beside them by more than slide of each of these "
            + "(at the rim: of the one alone): a set.");
        due("just slide", of(8, 10, 8).folds(), 0);
        due("one more at both rims", of(7, 10, 7).folds(), 0b101);
        due("between", of(10, 7, 10).folds(), 0b010);
        due("by one side alone", of(10, 7, 9).folds(), 0);
        due("alike ones", of(10, 7, 7, 10).folds(), 0);
        due("all of one height", new LetHorizon().folds(), 0);
        due("fourteen", of(0, 40, 0, 40, 0, 40, 0, 40, 0, 40, 0, 40, 0, 40).folds(), 0b01010101010101);
        due("slide of those beside it", by("slide 40 when column=1;slide 0;", 9, 10, 10, 9).folds(), 0b1000);
        due("of each of these", by("slide 5 when column=0;slide 1;", 10, 5, 10).folds(), 0);
    }

    private static void duskBounds() {
        sentence(0, "DUSK of a COLUMN: the first hour 0 .. 23 at which sun is HEIGHT at most.");
        due("just height", by("sun 10 when hour=5;sun 11;", 10, 10, 10).of(0, 4), 5);
        due("one above: none", by("sun 11;", 10, 10, 10).of(0, 4), NONE);
        due("at hour 0", by("sun 10;", 10, 10, 10).of(0, 4), 0);
        due("at hour 23", by("sun 9 when hour=23;sun 11;", 10, 10, 10).of(0, 4), 23);
        due("the first of several", by("sun 0 when hour>3 and hour<9;sun 99;", 10, 10, 10).of(0, 4), 4);
        due("height 0, sun held to 0", by("sun 0-5 when hour=7;sun 1;", 0, 10, 10).of(0, 4), 7);
        due("height 40", of(40, 40, 40).of(0, 4), 7);
        due("height 0", of(0, 40, 40).of(0, 4), 20);

        sentence(0, "SUNSETS, up to 8 told: COLUMN, hour.");
        LetHorizon x = new LetHorizon();
        for (int i = 1; i <= 8; i++) due("sunset", x.sunset(i, 3 * i - 1), i);
        due("ninth", x.sunset(0, 0), NONE);
        due("eight", x.look(13), 8);

        sentence(0, "LIFTED: by how much (-20 .. 20) all COLUMNS (as now, 0 .. 40 held) can have been lifted "
            + "so that each told one had DUSK at that hour");
        x = by("sun 0 when hour=1 and height=0;sun 40 when hour=2;sun 99;", 20, 21, 19);
        due("no sunset: all", x.lifted(0), 41);
        due("no sunset: the least", x.lifted(1), -20);
        x.sunset(0, 1);
        due("just -20", x.lifted(0), 1);
        due("just -20", x.lifted(1), -20);
        x.sunset(NONE, 0);
        x.sunset(0, 2);
        due("just 20", x.lifted(0), 1);
        due("just 20", x.lifted(1), 20);
        x.sunset(NONE, 0);
        x.sunset(1, 1);
        due("21 can't be 0", x.lifted(0), 0);
        x.sunset(NONE, 0);
        x.sunset(2, 1);
        due("19 is held at 0", x.lifted(0), 2);
        x.sunset(NONE, 0);
        x.sunset(1, 2);
        due("21 is held at 40", x.lifted(0), 2);
        due("the least of these", x.lifted(1), 19);
        x.sunset(0, 2);
        due("each told one", x.lifted(0), 1);
        x.sunset(2, 2);
        due("each told one", x.lifted(0), 0);

        sentence(0, "(the law asked with that HEIGHT, WORN as now, leans of the line so lifted)");
        x = by("sun 0 when hour=leans;sun 99;", 10, 20, 20);
        x.sunset(0, 10);
        due("leans 10 from -10 to 20", x.lifted(0), 31);
        x.sunset(NONE, 0);
        x.sunset(0, 5);
        due("leans 5 if 20 is lifted by -15", x.lifted(1), -15);
        x = by("sun 0 when hour=height-worn;sun 99;", 10, 10, 10);
        x.set(2, 1, 5);
        x.sunset(1, 7);
        due("height 12, worn 5", x.lifted(1), 2);
        due("that alone", x.lifted(0), 1);
        due("nothing stays", x.of(1, 0), 10);

        sentence(0, "LOOK: the COLUMN for which of these the greatest number with one and the same DUSK (or none) is least; "
            + "of several the least.");
        x = by("sun 0 when column=0 and hour=height/2;sun 0 when column=1 and hour=height;sun 99;", 20, 5, 10);
        due("halves: two of each, wholes: held ones", x.lifted(2), 0);
        x = by("sun 0 when column=2 and hour=height;sun 99;", 0, 0, 20);
        due("23 at most, then none", x.lifted(2), 2);
        x = by("sun 0;", 10, 10, 10);
        due("all alike: the least", x.lifted(2), 0);
        x = by("sun 99;", 10, 10, 10);
        due("none alike too", x.lifted(2), 0);
        x = by("sun 0 when column=1 and height=10;sun 99;", 10, 10, 10);
        due("one of 41 has another", x.lifted(2), 1);
        x.sunset(1, 0);
        due("one alone: fewer than two", x.lifted(2), NONE);
        x = by("sun 0 when column=0 and hour=height;sun 99;", 20, 20, 20);
        due("the first by height", x.lifted(2), 0);
        tell(x, 0, "sun 0 when column=2 and hour=height;sun 99;");
        due("asked anew: the last", x.lifted(2), 2);
        tell(x, 0, "sun 99 when column=1 and hour<height;sun 0;");
        due("asked anew: the second", x.lifted(2), 1);
        tell(x, 0, "sun 0 when column=0 and height<20;sun 99;");
        due("asked anew: the first", x.lifted(2), 0);
        x = by("sun 0 when column=13 and hour=height;sun 99;", 20, 20, 20, 20, 20, 20, 20, 20, 20, 20, 20, 20, 20, 20);
        due("of fourteen the last", x.lifted(2), 13);
        x.sunset(13, 23);
        due("of fourteen the last: height 23", x.lifted(1), 3);
    }

    private static void seesBounds() {
        sentence(0, "SEES of a PIER: a COLUMN, if HEIGHT of each between is HEIGHT of the PIER's COLUMN and EYE at most: "
            + "a set (its own COLUMN and those beside it always).");
        LetHorizon x = of(10, 15, 15, 40, 0);
        x.pier(0, 5);
        due("just as high", x.pierOf(0, 2), 0b01111);
        x.pier(0, 4);
        due("one above", x.pierOf(1, 2), 0b00011);
        x.pier(4, 20);
        due("over the rim's neighbour not", x.pierOf(2, 2), 0b11000);
        x.pier(3, 0);
        due("from the top", x.pierOf(3, 2), 0b11111);
        x.pier(2, 0);
        due("both sides", x.pierOf(4, 2), 0b01111);

        sentence(0, "OVER: PIERS that see each of a set of COLUMNS.");
        due("none of the columns: all piers", x.over(0), 0b11111);
        due("all columns", x.over(0b11111), 0b01000);
        due("one", x.over(0b10000), 0b01100);
        due("two", x.over(0b00101), 0b11001);
        due("no piers", new LetHorizon().over(0b1111111111), 0);

        sentence(0, "WATCH: the fewest PIERS that see all COLUMNS between them; the set (of several the least).");
        due("one", x.watch(0), 1);
        due("that one", x.watch(1), 0b01000);
        x.set(4, 3, 0);
        due("two", x.watch(0), 2);
        due("the least of several", x.watch(1), 0b00101);
        LetHorizon y = of(10, 40, 10, 40, 10, 40, 10, 40, 10, 40, 10, 40);
        due("no piers", y.watch(0), NONE);
        for (int p = 0; p < 5; p++) y.pier(2 * p, 0);
        due("five do not", y.watch(0), NONE);
        due("five do not", y.watch(1), NONE);
        y.pier(10, 0);
        due("all six", y.watch(0), 6);
        due("all six", y.watch(1), 0b111111);
        y.set(4, 5, 11);
        due("the last one sees all", y.watch(1), 0b100000);
    }

    private static void coilsAndMoors() {
        sentence(0, "COILS of L (1 .. 200): the fewest parts, each of COLUMNS side by side, of which no HEIGHTS together "
            + "are above L; of several ways the first: the lengths, part by part, the longer.");
        LetHorizon x = of(1, 0, 1, 0, 0);
        due("L 1", x.coils(1, 0), 2);
        due("the longer with what is 0", x.coils(1, 10), 2);
        due("the rest", x.coils(1, 11), 3);
        due("L 2: one", x.coils(2, 0), 1);
        due("all", x.coils(2, 10), 5);
        due("all of 0", of(0, 0, 0).coils(1, 10), 3);
        x = of(40, 40, 40, 40, 40, 0);
        due("just 200", x.coils(200, 0), 1);
        due("199", x.coils(199, 0), 2);
        due("199: four", x.coils(199, 10), 4);
        due("L 40", x.coils(40, 0), 5);
        due("L 40: the last", x.coils(40, 14), 2);
        due("L 39", x.coils(39, 0), NONE);
        due("L 0", x.coils(0, 0), NONE);
        due("L 201", x.coils(201, 0), NONE);
        due("L 0 where all are 0", of(0, 0, 0).coils(0, 0), NONE);
        due("each part to its L", of(10, 10, 1).coils(10, 0), 3);
        due("each part to its L", of(10, 9, 1).coils(10, 0), 2);

        sentence(0, "MOORS: SHIPS each to a COLUMN of its own at which HEIGHT is DRAUGHT at least: the least sum of COLUMNS "
            + "between where it is AT and that; of a SHIP its COLUMN: of several ways the first (SHIP by SHIP, the lesser).");
        x = of(10, 10, 10);
        due("no ships", x.moors(0), 0);
        x.ship(1, 10);
        due("just as high: stays", x.moors(0), 0);
        x.ship(1, 10);
        due("of its own", x.moors(0), 1);
        due("the lesser first", x.moors(10), 0);
        due("then the next", x.moors(11), 1);
        x.ship(1, 10);
        due("three", x.moors(0), 2);
        for (int s = 0; s < 3; s++) due("three, ship " + s, x.moors(10 + s), s);
        x.ship(1, 0);
        due("more ships than columns", x.moors(0), NONE);
        due("more ships than columns", x.moors(10), NONE);
        x = of(10, 11, 10);
        x.ship(2, 12);
        due("one foot lacks", x.moors(0), NONE);
        x = of(0, 0, 0, 0, 0, 0, 40, 40, 40, 40, 40, 40, 40, 40);
        for (int s = 0; s < 8; s++) x.ship(0, 40);
        due("eight", x.moors(0), 6 + 7 + 8 + 9 + 10 + 11 + 12 + 13);
        for (int s = 0; s < 8; s++) due("eight, ship " + s, x.moors(10 + s), 6 + s);
    }

    private static void sharesAndGame() {
        sentence(0, "FEE of c (0 .. 9999), p of a thousand (0 .. 999) who do not come: c times 1000 by 1000 less p, upwards.");
        LetHorizon x = new LetHorizon();
        due("0, 0", x.fee(0, 0), 0);
        due("0, 999", x.fee(0, 999), 0);
        due("9999, 0", x.fee(9999, 0), 9999);
        due("9999, 999", x.fee(9999, 999), 9999000);
        due("1, 1 upwards", x.fee(1, 1), 2);
        due("without a rest", x.fee(999, 1), 1000);
        due("one more", x.fee(1000, 1), 1002);
        due("10000", x.fee(10000, 0), NONE);
        due("1000", x.fee(0, 1000), NONE);

        sentence(0, "PIERS share it by DUSK of their COLUMN (24 if none) and 1: downwards; "
            + "what is left one by one to those with the greatest rest (of several the least):");
        x = by("sun 0 when column=0;sun 0 when column=1 and hour=23;sun 99;", 10, 10, 10);
        x.pier(0, 0);
        x.pier(1, 0);
        x.pier(2, 0);
        int[][] shares = {{0, 0, 0, 0}, {1, 0, 0, 1}, {2, 0, 1, 1}, {25, 1, 12, 12}, {26, 1, 12, 13}, {49, 1, 24, 24},
            {50, 1, 24, 25}, {100, 2, 48, 50}, {9999, 200, 4800, 4999}};
        for (int[] v : shares) {
            for (int p = 0; p < 3; p++) due("part(" + v[0] + ", " + p + ")", x.part(v[0], p), v[1 + p]);
        }
        x = new LetHorizon();
        for (int p = 0; p < 6; p++) x.pier(p, 0);
        for (int p = 0; p < 6; p++) {
            due("alike rests: none left", x.part(6, p), 1);
            due("alike rests: one left", x.part(7, p), p < 1 ? 2 : 1);
            due("alike rests: five left", x.part(11, p), p < 5 ? 2 : 1);
        }
        x = new LetHorizon();
        x.pier(4, 0);
        due("one pier pays all", x.part(9999, 0), 9999);

        sentence(0, "GAME: two by turns lower one COLUMN by 1, 2 or 3 (0 at least); who lowers the last foot of all wins: "
            + "the COLUMN (of several the least), by how much (the fewest) who begins well lowers.");
        int[][] games = {{0, 0, 0, NONE, NONE}, {1, 0, 0, 0, 1}, {0, 2, 0, 1, 2}, {0, 0, 3, 2, 3}, {4, 0, 0, NONE, NONE},
            {5, 0, 0, 0, 1}, {1, 1, 0, NONE, NONE}, {1, 1, 1, 0, 1}, {1, 2, 0, 1, 1}, {0, 4, 1, 1, 3}, {1, 2, 3, NONE, NONE},
            {40, 40, 40, NONE, NONE}, {40, 40, 39, 0, 1}, {40, 40, 38, 0, 2}, {40, 37, 0, 0, 3}, {2, 3, 0, 1, 1}, {0, 1, 4, 1, 1}};
        for (int[] v : games) {
            x = of(v[0], v[1], v[2]);
            due("column of " + v[0] + " " + v[1] + " " + v[2], x.game(0), v[3]);
            due("by of " + v[0] + " " + v[1] + " " + v[2], x.game(1), v[4]);
        }
        againstAllGames();
    }

    /** All games of three columns up to eight feet, played to the end. */
    private static void againstAllGames() {
        boolean[] wins = new boolean[9 * 9 * 9];
        LetHorizon x = of(0, 0, 0);
        for (int i = 0; i < wins.length; i++) {
            int[] h = {i / 81, i / 9 % 9, i % 9};
            int[] size = {81, 9, 1};
            int column = NONE;
            int lowered = NONE;
            for (int c = 2; c >= 0; c--) {
                for (int k = 3; k >= 1; k--) {
                    if (k <= h[c] && !wins[i - k * size[c]]) {
                        column = c;
                        lowered = k;
                    }
                }
            }
            wins[i] = column != NONE;
            if (i % 60 == 0) x = of(0, 0, 0);
            for (int c = 0; c < 3; c++) x.raise(c, h[c]);
            due("game(0) of " + h[0] + " " + h[1] + " " + h[2], x.game(0), column);
            due("game(1) of " + h[0] + " " + h[1] + " " + h[2], x.game(1), lowered);
        }
    }

    private static void undoBounds() {
        sentence(0, "UNDO: the latest HOUR, SETTING, LIFTING, MENDING not undone yet goes back (STATE, THE BOOK, too): 6 are kept;");
        LetHorizon x = busy();
        x.set(0, 0, 4);
        x.image(true);
        String[] before = new String[7];
        for (int i = 0; i < 7; i++) {
            before[i] = whole(x);
            if (i % 4 == 0) x.hours(1);
            if (i % 4 == 1) x.raise(1, 30 + i);
            if (i % 4 == 2) x.lift(-i);
            if (i % 4 == 3) x.mend(3);
            due("kept", x.look(14), Math.min(6, i + 1));
        }
        for (int i = 6; i >= 1; i--) {
            due("undo", x.undo(), true);
            due("left", x.look(14), i - 1);
            due("all is as ahead of " + i, whole(x).equals(before[i]), true);
        }
        due("the seventh is gone", x.undo(), false);
        due("nothing is done", whole(x).equals(before[1]), true);
        x = new LetHorizon();
        x.hours(60);
        due("hours one by one", x.look(14), 6);
        for (int i = 0; i < 6; i++) x.undo();
        due("six hours back", x.look(3), 54);
        due("no more", x.undo(), false);
        x.raise(0, 3);
        x.undo();
        due("undone is not undone again", x.undo(), false);
        x = new LetHorizon();
        for (int i = 0; i < 15; i++) x.lift(i % 2 == 0 ? 1 : -1);
        x.raise(0, 33);
        x.undo();
        due("the book was full", x.look(8), 150);
        x.undo();
        due("and is not then", x.look(8), 140);

        sentence(0, "whatever else is told but THE LAW, WANTS, SUNSETS (the taking of THE IMAGE does not) forgets them.");
        for (int way = 0; way < 20; way++) {
            x = new LetHorizon();
            x.ship(0, 0);
            x.pier(0, 0);
            x.image(true);
            x.raise(0, 1);
            x.hours(1);
            due("way " + way, tellOther(x, way), true);
            due("what can be undone, way " + way, x.look(14), way < 10 ? 0 : 2);
            due("undo, way " + way, x.undo(), way >= 10);
        }
    }

    /** What is told in ways 0 to 9 forgets, in the others it does not. */
    private static boolean tellOther(LetHorizon x, int way) {
        switch (way) {
            case 0: return x.state(5) == 0;
            case 1: return x.sea(10);
            case 2: return x.ship(1, 1) == 1;
            case 3: return x.pier(1, 1) == 1;
            case 4: return x.set(0, 0, 3);
            case 5: return x.set(1, 0, 0);
            case 6: return x.set(2, 0, 0);
            case 7: return x.set(3, 0, 0) && x.set(4, 0, 0);
            case 8: return x.image(false);
            case 9: return tell(x, 1, "at 9 lift 1;") == 1;
            case 10: return tell(x, 0, "wear 1;") == 1;
            case 11: return tell(x, 2, "pier 0 wants 1 from 1 to 1 pays 1;") == 1;
            case 12: return x.sunset(1, 1) == 1;
            case 13: return x.sunset(NONE, 0) == 0;
            case 14: return x.image(true);
            case 15: return tell(x, 1, "at") == NONE && tell(x, 0, "wear") == NONE;
            case 16: return !x.sea(2) && x.ship(10, 0) == NONE && x.pier(10, 0) == NONE;
            case 17: return !x.set(0, 0, 0) && !x.set(1, 0, -1) && !x.set(2, 0, 100) && !x.set(3, 0, 10) && !x.set(4, 0, 10);
            case 18: return x.raise(0, 41) == NONE && x.lift(0) == NONE && x.mend(10) == NONE && x.hours(61) == NONE;
            default: return x.goes(9, 0) == 0 && x.lifted(0) == 41 && x.smooth(0) > 0;
        }
    }

    /** What is seen, without what can be undone, which an undoing changes. */
    private static String whole(LetHorizon x) {
        StringBuilder all = new StringBuilder();
        for (int what = 0; what < 14; what++) all.append(x.look(what)).append(' ');
        for (int c = 0; c < 5; c++) all.append(x.of(c, 0)).append(' ').append(x.of(c, 1)).append(' ');
        for (int s = 0; s < 2; s++) all.append(x.shipOf(s, 0)).append(' ').append(x.shipOf(s, 2)).append(' ');
        return all.toString();
    }

    private static void imageBounds() {
        sentence(0, "THE IMAGE: all that is and was told but the TAPE, fault() and what can be undone (nothing then), "
            + "as it was when it was taken; gone back to it may be more than once.");
        LetHorizon x = busy();
        x.image(true);
        x.set(0, 0, 3);
        String then = seen(x);
        x = busy();
        due("taken", x.image(true), true);
        int undoable = x.look(14);
        due("what can be undone stays at the taking", undoable > 0, true);
        x.hours(9);
        x.sea(3);
        x.feed(1, 2, 3, 4, 5);
        due("gone back", x.image(false), true);
        leaves("image(false)", x, then);
        due("nothing can be undone then", x.undo(), false);
        due("the tape stays", x.end(20), true);
        x = busy();
        x.image(true);
        for (int again = 0; again < 3; again++) {
            x.sea(3 + again);
            tell(x, 0, "no");
            due("gone back again", x.image(false), true);
            due("the fault stays", x.fault(0), 1);
            due("W", x.look(0), 5);
            due("ships", x.look(1), 2);
            due("the law", x.look(10), 3);
            due("wear by the law", x.of(1, 2), busy().of(1, 2));
            due("the book", x.book(0, 3), busy().book(0, 3));
        }
        x.raise(0, 5);
        x.image(true);
        x.raise(0, 6);
        x.image(false);
        due("taken anew", x.of(0, 0), 5);
        x = busy();
        x.image(true);
        x.set(0, 0, 3);
        then = seen(x);
        x.sea(14);
        for (int s = 0; s < 8; s++) x.ship(s + 6, 30 - s);
        for (int p = 0; p < 6; p++) x.pier(p + 8, 9 - p);
        for (int i = 0; i < 8; i++) x.sunset(i + 1, 23 - i);
        x.set(0, 0, 9);
        x.set(1, 0, 77);
        tell(x, 1, "at 0 drop 9;".repeat(9));
        tell(x, 2, "pier 5wants 0from 0to 23pays 77;".repeat(9));
        tell(x, 0, "wear 50;slide 40;cost 99;sun 3;sun 9;");
        x.hours(5);
        x.image(false);
        leaves("image(false) after all was told anew", x, then);
    }

    // The promises, one by one.

    private static void firstPromises() {
        sentence(1, "Ten columns of sea.");
        LetHorizon x = new LetHorizon();
        due("W", x.look(0), 10);
        due("column 9", x.of(9, 0), 10);
        due("no column 10", x.of(10, 0), NONE - 1);

        sentence(2, "STATE is told: what it was.");
        int was = 0;
        for (int v : new int[] {1, -1, 0, Integer.MAX_VALUE, Integer.MIN_VALUE, 7}) {
            due("state(" + v + ")", x.state(v), was);
            due("look(9)", x.look(9), v);
            was = v;
        }

        sentence(3, "W is told: true; false, and nothing is done, if it can't be.");
        for (int w = 3; w <= 14; w++) due("sea(" + w + ")", new LetHorizon().sea(w), true);
        for (int w : new int[] {-3, -1, 0, 1, 2, 15, 16}) {
            x = busy();
            String before = seen(x);
            due("sea(" + w + ")", x.sea(w), false);
            leaves("sea(" + w + ")", x, before);
        }
        for (int w : FAR) due("sea(" + w + ")", x.sea(w), false);

        sentence(4, "A SHIP: the number; NONE if one can't be, or there are eight.");
        x = busy();
        String before = seen(x);
        int[][] noShips = {{-1, 0}, {5, 0}, {6, 0}, {0, -1}, {0, 41}, {-1, 41}, {Integer.MIN_VALUE, 0}, {Integer.MAX_VALUE, 0},
            {0, Integer.MIN_VALUE}, {0, Integer.MAX_VALUE}};
        for (int[] v : noShips) due("ship(" + v[0] + ", " + v[1] + ")", x.ship(v[0], v[1]), NONE);
        leaves("refused ships", x, before);
        for (int s = 2; s < 8; s++) due("ship", x.ship(s % 5, s % 2 * 40), s);
        due("a ninth", x.ship(0, 0), NONE);
        due("eight", x.look(1), 8);

        sentence(5, "A PIER: the number; NONE if one can't be, or there are six.");
        x = busy();
        before = seen(x);
        int[][] noPiers = {{-1, 0}, {5, 0}, {6, 0}, {0, -1}, {0, 21}, {-1, 21}, {Integer.MIN_VALUE, 0}, {Integer.MAX_VALUE, 0},
            {0, Integer.MIN_VALUE}, {0, Integer.MAX_VALUE}};
        for (int[] v : noPiers) due("pier(" + v[0] + ", " + v[1] + ")", x.pier(v[0], v[1]), NONE);
        leaves("refused piers", x, before);
        for (int p = 2; p < 6; p++) due("pier", x.pier(p % 5, p % 2 * 20), p);
        due("a seventh", x.pier(0, 0), NONE);
        due("six", x.look(2), 6);
    }

    private static void settingPromise() {
        sentence(6, "What 0 STEEP, 1 GUSTS (who not asked), 2 WORN of COLUMN who, 3 AT of SHIP who, 4 AT of PIER who: true; "
            + "false if one can't be, or another what.");
        LetHorizon x = busy();
        String before = seen(x);
        int[][] cannot = {{0, 0, 0}, {0, 0, 10}, {0, 0, -1}, {1, 0, -1}, {1, 0, 1001}, {2, 0, -1}, {2, 0, 100}, {2, -1, 0},
            {2, 5, 0}, {3, -1, 0}, {3, 2, 0}, {3, 0, -1}, {3, 0, 5}, {4, -1, 0}, {4, 2, 0}, {4, 0, -1}, {4, 0, 5}, {5, 0, 1},
            {6, 0, 1}, {-1, 0, 1}, {-2, 0, 1}};
        for (int[] v : cannot) due("set(" + v[0] + ", " + v[1] + ", " + v[2] + ")", x.set(v[0], v[1], v[2]), false);
        for (int far : FAR) {
            due("set(" + far + ", 0, 1)", x.set(far, 0, 1), false);
            for (int what = 0; what < 5; what++) due("set(" + what + ", 0, " + far + ")", x.set(what, 0, far), false);
            for (int what = 2; what < 5; what++) due("set(" + what + ", " + far + ", 0)", x.set(what, far, 0), false);
        }
        leaves("refused settings", x, before);
        for (int who : new int[] {0, -1, Integer.MIN_VALUE, Integer.MAX_VALUE}) {
            due("steep, who not asked", x.set(0, who, 9), true);
            due("gusts, who not asked", x.set(1, who, 1000), true);
        }
        int[][] can = {{0, 0, 1}, {1, 0, 0}, {2, 0, 0}, {2, 4, 99}, {3, 0, 0}, {3, 1, 4}, {4, 0, 0}, {4, 1, 4}};
        for (int[] v : can) due("set(" + v[0] + ", " + v[1] + ", " + v[2] + ")", x.set(v[0], v[1], v[2]), true);
        due("steep", x.look(4), 1);
        due("gusts", x.look(5), 0);
        due("worn 4", x.of(4, 1), 99);
        due("at of ship 0", x.shipOf(0, 0), 0);
        due("at of ship 1", x.shipOf(1, 0), 4);
        due("at of pier 0", x.pierOf(0, 0), 0);
        due("at of pier 1", x.pierOf(1, 0), 4);
    }

    private static void workPromises() {
        sentence(7, "To SET a COLUMN: HEIGHT then; NONE if one can't be (0 .. 40).");
        LetHorizon x = busy();
        String before = seen(x);
        int[][] noHeights = {{-1, 0}, {5, 0}, {0, -1}, {0, 41}, {Integer.MIN_VALUE, 1}, {Integer.MAX_VALUE, 1},
            {1, Integer.MIN_VALUE}, {1, Integer.MAX_VALUE}};
        for (int[] v : noHeights) due("raise(" + v[0] + ", " + v[1] + ")", x.raise(v[0], v[1]), NONE);
        leaves("refused raising", x, before);
        due("raise(4, 0)", x.raise(4, 0), 0);
        due("raise(4, 40)", x.raise(4, 40), 40);
        due("height then, not what was asked", x.raise(3, 40), 40 - x.of(3, 1) / 4);

        sentence(8, "To LIFT (1 .. 20), to DROP (-20 .. -1): COIN less by that; NONE if one can't be.");
        x = busy();
        before = seen(x);
        for (int n : new int[] {0, 21, -21, 22, -22}) due("lift(" + n + ")", x.lift(n), NONE);
        for (int n : FAR) due("lift(" + n + ")", x.lift(n), NONE);
        leaves("refused lifting", x, before);
        for (int n : new int[] {1, 20, -1, -20}) {
            x = of(10, 10, 10);
            due("lift(" + n + ")", x.lift(n), Math.max(0, 3 * n));
            due("coin", x.look(6), -Math.max(0, 3 * n));
            due("height", x.of(0, 0), Math.max(0, 10 + n));
        }

        sentence(9, "To MEND: what it costs; NONE if there is no such COLUMN.");
        x = busy();
        before = seen(x);
        for (int c : new int[] {-1, 5, 6}) due("mend(" + c + ")", x.mend(c), NONE);
        for (int c : FAR) due("mend(" + c + ")", x.mend(c), NONE);
        leaves("refused mending", x, before);
        x.set(2, 4, 99);
        due("mend(4)", x.mend(4), 99);
        due("mend(4) again", x.mend(4), 0);
        x.set(2, 0, 1);
        due("mend(0)", x.mend(0), 1);

        sentence(10, "HOURS go by (1 .. 60): how many WANTS were paid.");
        x = of(10, 10, 10);
        x.pier(0, 0);
        tell(x, 2, "pier 0 wants 10 from 0 to 23 pays 0;pier 0 wants 10 from 1 to 1 pays 2;pier 0 wants 9 from 0 to 23 pays 2;");
        due("hours(1)", x.hours(1), 1);
        due("hours(60)", x.hours(60), 60 + 3);
        due("hour", x.look(3), 61);

        sentence(10, "NONE, and nothing is done, if one can't be, or HOUR would be above 9999.");
        x = busy();
        before = seen(x);
        for (int n : new int[] {0, -1, 61, 62}) due("hours(" + n + ")", x.hours(n), NONE);
        for (int n : FAR) due("hours(" + n + ")", x.hours(n), NONE);
        leaves("refused hours", x, before);
        x = new LetHorizon();
        goOn(x, 9940);
        due("60 would be 10000", x.hours(60), NONE);
        due("nothing is done", x.look(3), 9940);
        due("59 is 9999", x.hours(59), 0);
        due("9999", x.look(3), 9999);
        for (int n : new int[] {1, 2, 60}) due("hours(" + n + ") at 9999", x.hours(n), NONE);
        due("nothing is done", x.look(3), 9999);
        due("raising can be done still", x.raise(0, 11), 11);
        bookLine(x, 0, 9999, 0, 0, 11);
    }

    private static void tapePromises() {
        sentence(11, "Twenty bytes come behind the TAPE, of each number the highest first: how many it has.");
        LetHorizon x = new LetHorizon();
        due("feed", x.feed(0x73756e20, 0x39302b68, 0x6f757220, 0x7768656e, 0x20303c31), 20);
        due("feed", x.feed(0x203b2020, 0x20202020, 0x20202020, 0x20202020, 0x20202020), 40);
        due("text", x.text(0), 1);
        due("sun 90+hour when 0<1", x.sun(0, 7), 97);
        due("behind an end that cuts", x.feed(0x73756e20, 0x37202020, 0, -1, Integer.MIN_VALUE), 20);
        due("end(5)", x.end(5), true);
        due("behind 5", x.feed(0x203b2020, 0x20202020, 0x20202020, 0x20202020, 0x20202020), 25);
        due("text", x.text(0), 1);
        due("sun 7", x.sun(0, 7), 7);

        sentence(11, "NONE, and nothing comes, if there would be more than 400.");
        for (int i = 1; i <= 20; i++) due("feed", x.feed(0x20202020, 0x20202020, 0x20202020, 0x20202020, 0x20202020), 20 * i);
        due("420", x.feed(1, 1, 1, 1, 1), NONE);
        due("400 still", x.end(401), false);
        due("all blank still", x.text(0), 0);
        for (int i = 1; i <= 20; i++) x.feed(0x20202020, 0x20202020, 0x20202020, 0x20202020, 0x20202020);
        due("end(381)", x.end(381), true);
        due("401", x.feed(1, 1, 1, 1, 1), NONE);
        due("381 still", x.end(382), false);
        due("end(380)", x.end(380), true);
        due("just 400", x.feed(0x20202020, 0x20202020, 0x20202020, 0x20202020, 0x20202020), 400);

        sentence(12, "The TAPE has its first n bytes alone: true; false, changing nothing, if it has not so many, or n is below 0.");
        for (int n : new int[] {-1, 401, 402}) due("end(" + n + ")", x.end(n), false);
        for (int n : FAR) due("end(" + n + ")", x.end(n), false);
        due("all of it", x.end(400), true);
        due("end(399)", x.end(399), true);
        due("not 400 again", x.end(400), false);
        due("none", x.end(0), true);
        due("none again", x.end(0), true);
        due("not 1", x.end(1), false);
        due("begins anew", x.feed(0, 0, 0, 0, 0), 20);
        due("of a new object", new LetHorizon().end(0) && !new LetHorizon().end(1), true);
        x.end(0);
        x.feed(0x73756e20, 0x383b7375, 0x6e20393b, 0, 0);
        due("end(-1)", x.end(-1), false);
        due("end(21)", x.end(21), false);
        due("end(6)", x.end(6), true);
        due("its first six alone", x.text(0), 1);
        due("sun 8", x.sun(0, 0), 8);
    }

    private static void textPromises() {
        sentence(13, "The TAPE, empty then, is TEXT k: how many lines.");
        LetHorizon x = new LetHorizon();
        x.pier(0, 0);
        String[] one = {"wear 1;", "at 1 lift 1;", "pier 0wants 1from 1to 1pays 1;"};
        int[] most = {16, 16, 12};
        for (int k = 0; k < 3; k++) {
            due("empty", tell(x, k, ""), 0);
            due("one", tell(x, k, one[k]), 1);
            due("the tape is empty then", x.end(1), false);
            due("the most", tell(x, k, one[k].repeat(most[k])), most[k]);
            due("look", x.look(10 + k), most[k]);
            due("an empty tape then", x.text(k), 0);
            due("look", x.look(10 + k), 0);
        }

        sentence(13, "NONE: no such one (fault() tells 0), or a FAULT (it stays as it was).");
        for (int k = 0; k < 3; k++) {
            tell(x, k, one[k] + one[k]);
            faulty(x, k, one[k] + "no", 1, one[k].length());
            due("it stays as it was", x.look(10 + k), 2);
            due("the tape is empty", x.end(1), false);
        }
        for (int k : new int[] {-1, 3, 4, Integer.MIN_VALUE, Integer.MAX_VALUE}) {
            faulty(x, 0, "no", 1, 0);
            feedText(x, "wear 1;");
            due("text(" + k + ")", x.text(k), NONE);
            due("fault(0)", x.fault(0), 0);
            due("fault(1)", x.fault(1), NONE);
            for (int what = 10; what <= 12; what++) due("look(" + what + ")", x.look(what), 2);
        }
        x = by("wear 7;slide 8;", 10, 12, 10);
        faulty(x, 0, "wear 1;slide 1;cost 1;sun 1/0;", 2, 28);
        due("wear as it was", x.of(0, 2), 7);
        due("slide as it was", x.of(0, 3), 8);
        due("cost as it was", x.costs(0, 15), 5);
        tell(x, 1, "at 0 set 0 to 20;");
        faulty(x, 1, "at 0 set 0 to 30;at 0 set 0 to 41;", 2, 31);
        x.hours(1);
        due("the roster as it was", x.of(0, 0), 20);

        sentence(14, "Of the latest text() what 0 the FAULT (0 without one), 1 its place (NONE).");
        x = new LetHorizon();
        due("ahead of any", x.fault(0), 0);
        due("ahead of any", x.fault(1), NONE);
        faulty(x, 0, "no", 1, 0);
        fine(x, 0, "", 0);
        faulty(x, 0, "wear 1/0;", 2, 7);
        x.feed(0, 0, 0, 0, 0);
        x.end(0);
        due("a tape is no text", x.fault(0), 2);
        fine(x, 1, "", 0);
        faulty(x, 0, "wear 1;".repeat(17), 3, 112);
        x.sea(4);
        due("stays with a new sea", x.fault(0), 3);
        due("stays with a new sea", x.fault(1), 112);

        sentence(14, "NONE for another what.");
        for (int what : new int[] {-1, 2, 3, Integer.MIN_VALUE, Integer.MAX_VALUE}) due("fault(" + what + ")", x.fault(what), NONE);
    }

    private static void askingPromises() {
        sentence(15, "Of a COLUMN what 0 HEIGHT, 1 WORN, 2 wear, 3 slide, 4 DUSK (NONE), 5 leans. "
            + "NONE - 1 if there is none such, or another what.");
        LetHorizon x = by("wear 3;slide 4;sun 99 when column<2;sun 5;", 7, 9, 6);
        x.set(2, 2, 8);
        int[] all = {6, 8, 3, 4, 0, 3};
        for (int what = 0; what < 6; what++) due("of(2, " + what + ")", x.of(2, what), all[what]);
        due("no dusk", x.of(0, 4), NONE);
        for (int c : new int[] {-1, 3, 4, Integer.MIN_VALUE, Integer.MAX_VALUE}) {
            for (int what = 0; what < 6; what++) due("of(" + c + ", " + what + ")", x.of(c, what), -2);
        }
        for (int what : new int[] {-1, 6, 7, Integer.MIN_VALUE, Integer.MAX_VALUE}) due("of(0, " + what + ")", x.of(0, what), -2);

        sentence(16, "sun at an hour of the day (0 .. 23) over a COLUMN; NONE if one can't be.");
        x = of(10, 10, 10);
        due("sun(0, 0)", x.sun(0, 0), 60);
        due("sun(2, 19)", x.sun(2, 19), 3);
        due("sun(2, 23)", x.sun(2, 23), 0);
        for (int hour : new int[] {-1, 24, 25, Integer.MIN_VALUE, Integer.MAX_VALUE}) due("sun(0, " + hour + ")", x.sun(0, hour), NONE);
        for (int c : new int[] {-1, 3, 4, Integer.MIN_VALUE, Integer.MAX_VALUE}) due("sun(" + c + ", 0)", x.sun(c, 0), NONE);

        sentence(17, "cost of setting a COLUMN to N (0 .. 40); NONE if one can't be.");
        x = of(10, 0, 40);
        due("costs(0, 0)", x.costs(0, 0), 0);
        due("costs(0, 10)", x.costs(0, 10), 0);
        due("costs(0, 11)", x.costs(0, 11), 1);
        due("costs(1, 40)", x.costs(1, 40), 40);
        due("costs(2, 40)", x.costs(2, 40), 0);
        for (int n : new int[] {-1, 41, 42, Integer.MIN_VALUE, Integer.MAX_VALUE}) due("costs(0, " + n + ")", x.costs(0, n), NONE);
        for (int c : new int[] {-1, 3, 4, Integer.MIN_VALUE, Integer.MAX_VALUE}) due("costs(" + c + ", 0)", x.costs(c, 0), NONE);
        due("nothing is paid", x.look(6), -30);

        sentence(18, "Of a SHIP what 0 AT, 1 DRAUGHT, 2 SCRAPED. NONE if there is none such, or another what.");
        x = of(10, 10, 10);
        due("none yet", x.shipOf(0, 0), NONE);
        x.ship(2, 40);
        x.hours(2);
        int[] ship = {2, 40, 2};
        for (int what = 0; what < 3; what++) due("shipOf(0, " + what + ")", x.shipOf(0, what), ship[what]);
        for (int s : new int[] {-1, 1, 8, Integer.MIN_VALUE, Integer.MAX_VALUE}) {
            for (int what = 0; what < 3; what++) due("shipOf(" + s + ", " + what + ")", x.shipOf(s, what), NONE);
        }
        for (int what : new int[] {-1, 3, Integer.MIN_VALUE, Integer.MAX_VALUE}) due("shipOf(0, " + what + ")", x.shipOf(0, what), NONE);

        sentence(19, "Of a PIER what 0 AT, 1 EYE, 2 SEES (a set). NONE if there is none such, or another what.");
        due("none yet", x.pierOf(0, 0), NONE);
        x.pier(2, 20);
        int[] pier = {2, 20, 7};
        for (int what = 0; what < 3; what++) due("pierOf(0, " + what + ")", x.pierOf(0, what), pier[what]);
        for (int p : new int[] {-1, 1, 6, Integer.MIN_VALUE, Integer.MAX_VALUE}) {
            for (int what = 0; what < 3; what++) due("pierOf(" + p + ", " + what + ")", x.pierOf(p, what), NONE);
        }
        for (int what : new int[] {-1, 3, Integer.MIN_VALUE, Integer.MAX_VALUE}) due("pierOf(0, " + what + ")", x.pierOf(0, what), NONE);

        sentence(20, "Of line i of THE BOOK what 0 HOUR, 1 what, 2 which, 3 how much. NONE if there is none such, or another what.");
        x = new LetHorizon();
        due("none yet", x.book(0, 0), NONE);
        x.hours(1);
        x.raise(3, 7);
        bookLine(x, 0, 1, 0, 3, 7);
        for (int i : new int[] {-1, 1, 149, 150, Integer.MIN_VALUE, Integer.MAX_VALUE}) {
            for (int what = 0; what < 4; what++) due("book(" + i + ", " + what + ")", x.book(i, what), NONE);
        }
        for (int what : new int[] {-1, 4, Integer.MIN_VALUE, Integer.MAX_VALUE}) due("book(0, " + what + ")", x.book(0, what), NONE);
        x.undo();
        due("undone: none", x.book(0, 0), NONE);
        x.lift(1);
        for (int i = 0; i < 10; i++) {
            due("book(" + i + ", -1)", x.book(i, -1), NONE);
            due("book(" + i + ", 4)", x.book(i, 4), NONE);
        }
    }

    private static void thoughtPromises() {
        sentence(21, "GOES what 0 COIN, 1 how often SCRAPED, 2 BREAKS, 3 the first SHIP, 4 the first COLUMN (NONE). "
            + "NONE - 99999 if one can't be, or another what.");
        LetHorizon x = of(10, 10, 10);
        int[] quiet = {0, 0, 0, NONE, NONE};
        for (int what = 0; what < 5; what++) due("goes(99, " + what + ")", x.goes(99, what), quiet[what]);
        x.ship(1, 20);
        x.set(2, 2, 99);
        x.pier(0, 0);
        tell(x, 2, "pier 0 wants 10 from 0 to 0 pays 9;");
        int[] then = {9, 1, 1, 0, 2};
        for (int what = 0; what < 5; what++) due("goes(1, " + what + ")", x.goes(1, what), then[what]);
        for (int n : new int[] {-1, 0, 100, 101, Integer.MIN_VALUE, Integer.MAX_VALUE}) {
            for (int what = 0; what < 5; what++) due("goes(" + n + ", " + what + ")", x.goes(n, what), -100000);
        }
        for (int what : new int[] {-1, 5, Integer.MIN_VALUE, Integer.MAX_VALUE}) due("goes(1, " + what + ")", x.goes(1, what), -100000);

        sentence(22, "MEETS what 0 the sum, 1 the set; CLASH what 2, 3 the lines (NONE). "
            + "NONE if the hour (0 .. 23) can't be, or for another what.");
        tell(x, 2, "pier 0 wants 10 from 0 to 23 pays 9;pier 0 wants 11 from 23 to 23 pays 8;");
        int[][] met = {{9, 1, NONE, NONE}, {9, 1, 0, 1}};
        for (int what = 0; what < 4; what++) {
            due("meets(0, " + what + ")", x.meets(0, what), met[0][what]);
            due("meets(23, " + what + ")", x.meets(23, what), met[1][what]);
            for (int hour : new int[] {-1, 24, 25, Integer.MIN_VALUE, Integer.MAX_VALUE}) {
                due("meets(" + hour + ", " + what + ")", x.meets(hour, what), NONE);
            }
        }
        for (int what : new int[] {-1, 4, 5, Integer.MIN_VALUE, Integer.MAX_VALUE}) {
            due("meets(0, " + what + ")", x.meets(0, what), NONE);
            due("meets(23, " + what + ")", x.meets(23, what), NONE);
        }
        int[] without = {0, 0, NONE, NONE};
        for (int what = 0; what < 4; what++) due("no wants", new LetHorizon().meets(0, what), without[what]);

        sentence(23, "SMOOTH what 0 how many feet, 10 + x HEIGHT of COLUMN x then. NONE if there is none such, or another what.");
        x = of(0, 9, 40);
        due("feet", x.smooth(0), 6 + 28);
        due("first", x.smooth(10), 6);
        due("last", x.smooth(12), 12);
        for (int what : new int[] {-1, 1, 9, 13, 14, 23, 24, Integer.MIN_VALUE, Integer.MAX_VALUE}) {
            due("smooth(" + what + ")", x.smooth(what), NONE);
        }
        x.sea(14);
        due("the fourteenth", x.smooth(23), 10);
        due("no fifteenth", x.smooth(24), NONE);

        sentence(24, "FOLDS, as a set.");
        due("none", x.folds(), 0);
        x.raise(13, 0);
        x.raise(0, 0);
        due("the first and the last", x.folds(), 1 | 1 << 13);

        sentence(25, "A SUNSET (column NONE: none is then): how many; NONE if one can't be, or there are eight.");
        x = of(10, 10, 10);
        int[][] noSunsets = {{-2, 0}, {3, 0}, {0, -1}, {0, 24}, {Integer.MIN_VALUE, 0}, {Integer.MAX_VALUE, 0},
            {0, Integer.MIN_VALUE}, {0, Integer.MAX_VALUE}};
        for (int[] v : noSunsets) due("sunset(" + v[0] + ", " + v[1] + ")", x.sunset(v[0], v[1]), NONE);
        due("none came", x.look(13), 0);
        for (int i = 1; i <= 8; i++) due("sunset", x.sunset(i % 3, i % 2 * 23), i);
        due("a ninth", x.sunset(0, 0), NONE);
        due("eight", x.look(13), 8);
        due("none is then", x.sunset(NONE, 0), 0);
        due("none", x.look(13), 0);
        due("all can have been", x.lifted(0), 41);
        due("the first again", x.sunset(0, 0), 1);
        due("none again", x.sunset(NONE, 5), 0);
        due("none again", x.sunset(NONE, 5), 0);

        sentence(26, "LIFTED what 0 how many, 1 the least, 2 LOOK (NONE: fewer than two). NONE - 99 if none (1), or for another what.");
        x = by("sun 0 when height=10 or height=12;sun 99;", 10, 10, 10);
        x.sunset(0, 0);
        due("two", x.lifted(0), 2);
        due("two: the least", x.lifted(1), 0);
        due("two: look", x.lifted(2), 0);
        x.sunset(NONE, 0);
        tell(x, 0, "sun 0 when height=11;sun 99;");
        x.sunset(0, 0);
        due("one", x.lifted(0), 1);
        due("one: it", x.lifted(1), 1);
        due("one: look", x.lifted(2), NONE);
        x.sunset(0, 1);
        due("none", x.lifted(0), 0);
        due("none: the least", x.lifted(1), -100);
        due("none: look", x.lifted(2), NONE);
        for (int what : new int[] {-1, 3, Integer.MIN_VALUE, Integer.MAX_VALUE}) due("lifted(" + what + ")", x.lifted(what), -100);
    }

    private static void setPromises() {
        sentence(27, "OVER, as a set; NONE if the set of COLUMNS has other bits.");
        LetHorizon x = of(10, 10, 10);
        x.pier(0, 0);
        due("over(0)", x.over(0), 1);
        due("over(7)", x.over(7), 1);
        for (int set : new int[] {8, 15, 16, 1 << 14, 1 << 30, -1, -8, Integer.MIN_VALUE, Integer.MAX_VALUE}) {
            due("over(" + set + ")", x.over(set), NONE);
        }
        x.sea(14);
        due("no piers", x.over((1 << 14) - 1), 0);
        due("over(1 << 14)", x.over(1 << 14), NONE);

        sentence(28, "WATCH what 0 how many, 1 the set. NONE if all together do not, or for another what.");
        x = of(10, 40, 10);
        for (int what = 0; what < 2; what++) due("no piers", x.watch(what), NONE);
        x.pier(0, 0);
        for (int what = 0; what < 2; what++) due("not column 2", x.watch(what), NONE);
        x.pier(2, 0);
        due("both", x.watch(0), 2);
        due("both", x.watch(1), 3);
        for (int what : new int[] {-1, 2, Integer.MIN_VALUE, Integer.MAX_VALUE}) due("watch(" + what + ")", x.watch(what), NONE);

        sentence(29, "COILS what 0 how many, 10 + i the length of part i. "
            + "NONE if a COLUMN is above L, there is none such, one can't be, or another what.");
        x = of(5, 6, 5);
        due("L 5: a column is above", x.coils(5, 0), NONE);
        due("L 5: a column is above", x.coils(5, 10), NONE);
        due("L 6", x.coils(6, 0), 3);
        for (int i = 0; i < 3; i++) due("L 6, part " + i, x.coils(6, 10 + i), 1);
        due("L 6: no part 3", x.coils(6, 13), NONE);
        due("L 11", x.coils(11, 0), 2);
        due("L 11, part 0", x.coils(11, 10), 2);
        due("L 11, part 1", x.coils(11, 11), 1);
        due("L 11: no part 2", x.coils(11, 12), NONE);
        for (int l : new int[] {-1, 0, 201, Integer.MIN_VALUE, Integer.MAX_VALUE}) {
            due("coils(" + l + ", 0)", x.coils(l, 0), NONE);
            due("coils(" + l + ", 10)", x.coils(l, 10), NONE);
        }
        for (int what : new int[] {-1, 1, 9, 24, Integer.MIN_VALUE, Integer.MAX_VALUE}) due("coils(200, " + what + ")", x.coils(200, what), NONE);

        sentence(30, "MOORS what 0 the sum, 10 + s the COLUMN of SHIP s. NONE if there is no way, none such, or another what.");
        x = of(10, 20, 10);
        due("no ships", x.moors(0), 0);
        due("no ship 0", x.moors(10), NONE);
        x.ship(0, 20);
        due("the sum", x.moors(0), 1);
        due("its column", x.moors(10), 1);
        for (int what : new int[] {-1, 1, 9, 11, 17, 18, Integer.MIN_VALUE, Integer.MAX_VALUE}) due("moors(" + what + ")", x.moors(what), NONE);
        x.ship(1, 20);
        for (int what : new int[] {0, 10, 11, 12}) due("no way", x.moors(what), NONE);
    }

    private static void lastPromises() {
        sentence(31, "FEE; NONE if one can't be.");
        LetHorizon x = new LetHorizon();
        for (int v : new int[] {-1, 10000, Integer.MIN_VALUE, Integer.MAX_VALUE}) due("fee(" + v + ", 0)", x.fee(v, 0), NONE);
        for (int v : new int[] {-1, 1000, 1001, Integer.MIN_VALUE, Integer.MAX_VALUE}) due("fee(1, " + v + ")", x.fee(1, v), NONE);
        due("fee(9999, 999)", x.fee(9999, 999), 9999000);

        sentence(32, "PARTS; NONE if one can't be (c 0 .. 9999).");
        due("no piers", x.part(0, 0), NONE);
        x.pier(0, 0);
        due("0", x.part(0, 0), 0);
        due("9999", x.part(9999, 0), 9999);
        for (int v : new int[] {-1, 10000, Integer.MIN_VALUE, Integer.MAX_VALUE}) due("part(" + v + ", 0)", x.part(v, 0), NONE);
        for (int v : new int[] {-1, 1, 6, Integer.MIN_VALUE, Integer.MAX_VALUE}) due("part(1, " + v + ")", x.part(1, v), NONE);

        sentence(33, "GAME what 0 the COLUMN, 1 by how much. NONE if who begins loses, or for another what.");
        x = of(0, 0, 3);
        due("column", x.game(0), 2);
        due("by", x.game(1), 3);
        for (int what : new int[] {-1, 2, Integer.MIN_VALUE, Integer.MAX_VALUE}) due("game(" + what + ")", x.game(what), NONE);
        x.raise(2, 4);
        for (int what = 0; what < 2; what++) due("who begins loses", x.game(what), NONE);
        x.raise(2, 0);
        for (int what = 0; what < 2; what++) due("nothing to lower", x.game(what), NONE);

        sentence(34, "UNDO: true; false if there is nothing.");
        x = new LetHorizon();
        due("nothing", x.undo(), false);
        x.raise(0, 1);
        due("one", x.undo(), true);
        due("nothing", x.undo(), false);
        String before = seen(x);
        x.undo();
        leaves("undo of nothing", x, before);

        sentence(35, "THE IMAGE is taken (true), or gone back to (false): true; false if there is none.");
        x = new LetHorizon();
        x.raise(0, 1);
        due("none", x.image(false), false);
        due("nothing is done", x.look(14), 1);
        due("taken", x.image(true), true);
        due("gone back", x.image(false), true);
        due("gone back again", x.image(false), true);
        due("taken again", x.image(true), true);

        sentence(36, "NONE - 99999 for another what. (STATE as it is.)");
        for (int what : new int[] {-1, 15, 16, Integer.MIN_VALUE, Integer.MAX_VALUE}) due("look(" + what + ")", x.look(what), -100000);
        x.state(Integer.MIN_VALUE);
        due("state below 0", x.look(9), Integer.MIN_VALUE);
        x.state(-100000);
        due("state as it is", x.look(9), -100000);
    }

    public static void main(String[] args) throws IOException {
        if (Files.exists(DOCUMENT)) document = Files.readString(DOCUMENT).replaceAll("\\s+", " ");
        draws();
        columns();
        shipsAndPiers();
        textBounds();
        tokenBounds();
        faultBounds();
        lawBounds();
        workBounds();
        hourBounds();
        gustBounds();
        bookBounds();
        goesBounds();
        meetsBounds();
        smoothBounds();
        duskBounds();
        seesBounds();
        coilsAndMoors();
        sharesAndGame();
        undoBounds();
        imageBounds();
        firstPromises();
        settingPromise();
        workPromises();
        tapePromises();
        textPromises();
        askingPromises();
        thoughtPromises();
        setPromises();
        lastPromises();
        endSentence();
        for (int p = 0; p < named.length; p++) {
            if (!named[p]) complain("no sentence of promise " + p + " is looked at");
        }
        System.out.println(sentences + " sentences, " + made + " answers looked at, " + wrong + " not as due");
        if (wrong != 0) System.exit(1);
    }
}
