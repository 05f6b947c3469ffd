/** What the document says, promise by promise: ordinary inputs, the edges that it names, and wrong inputs. */
public final class PromisesTest {
    private static final int NONE = LetHorizon.NONE;
    private static int wrong = 0;
    private static int made = 0;
    private static int promise = 0;

    private static void due(String call, long got, long want) {
        made++;
        if (got != want) {
            wrong++;
            System.out.println("promise " + promise + ": " + call + " answered " + got + ", due is " + want);
        }
    }

    private static void due(String call, boolean got, boolean want) {
        due(call, got ? 1 : 0, want ? 1 : 0);
    }

    private static void feedText(LetHorizon x, String text) {
        for (int i = 0; i < text.length(); i += 20) {
            int[] v = new int[5];
            for (int j = 0; j < 20; j++) {
                v[j / 4] = v[j / 4] << 8 | (i + j < text.length() ? text.charAt(i + j) & 255 : ' ');
            }
            x.feed(v[0], v[1], v[2], v[3], v[4]);
        }
        x.end(text.length());
    }

    private static int tell(LetHorizon x, int k, String text) {
        feedText(x, text);
        return x.text(k);
    }

    private static void faulty(LetHorizon x, int k, String text, int which, int place) {
        due("text(" + k + ") \"" + text + "\"", tell(x, k, text), NONE);
        due("fault(0) of \"" + text + "\"", x.fault(0), which);
        due("fault(1) of \"" + text + "\"", x.fault(1), place);
    }

    private static void heights(LetHorizon x, int... h) {
        for (int c = 0; c < h.length; c++) x.raise(c, h[c]);
    }

    private static LetHorizon of(int... h) {
        LetHorizon x = new LetHorizon();
        x.sea(h.length);
        heights(x, h);
        return x;
    }

    private static String times(String s, int n) {
        return s.repeat(n);
    }

    private static void bookLine(LetHorizon x, int i, int hour, int what, int which, int much) {
        due("book(" + i + ", 0)", x.book(i, 0), hour);
        due("book(" + i + ", 1)", x.book(i, 1), what);
        due("book(" + i + ", 2)", x.book(i, 2), which);
        due("book(" + i + ", 3)", x.book(i, 3), much);
    }

    private static void newObject() {
        promise = 1;
        LetHorizon x = new LetHorizon();
        int[] first = {10, 0, 0, 0, 3, 0, 0, 0, 0, 0, 0, 0, 0, 0, 0};
        for (int what = 0; what < first.length; what++) due("look(" + what + ")", x.look(what), first[what]);
        for (int c = 0; c < 10; c++) {
            due("height", x.of(c, 0), 10);
            due("worn", x.of(c, 1), 0);
        }
        due("NONE", LetHorizon.NONE, -1);
        due("fault(0)", x.fault(0), 0);
        due("fault(1)", x.fault(1), NONE);
        due("undo", x.undo(), false);
        due("no image", x.image(false), false);
    }

    private static void state() {
        promise = 2;
        LetHorizon x = new LetHorizon();
        due("state(7)", x.state(7), 0);
        due("state(-5)", x.state(-5), 7);
        due("look(9)", x.look(9), -5);
        x.raise(0, 5);
        x.state(1);
        due("forgets", x.look(14), 0);
        x.set(1, 0, 1);
        x.state(123456789);
        x.hours(1);
        due("one draw above gusts", x.look(9), 1664525 * 123456789 + 1013904223);
        due("no gust then", x.look(8), 1);
        x.set(1, 0, 1000);
        x.hours(1);
        due("always a gust", x.book(1, 1), 6);
    }

    private static void sea() {
        promise = 3;
        LetHorizon x = new LetHorizon();
        for (int w : new int[] {2, 15, -1, Integer.MIN_VALUE, Integer.MAX_VALUE}) due("sea " + w, x.sea(w), false);
        x.state(77);
        x.ship(1, 3);
        x.pier(2, 4);
        x.set(0, 0, 5);
        x.set(1, 0, 6);
        x.set(2, 3, 8);
        tell(x, 0, "wear 1;");
        tell(x, 1, "at 9 lift 1;");
        tell(x, 2, "pier 0 wants 1 from 2 to 3 pays 4;");
        faulty(x, 2, "no", 1, 0);
        x.sunset(1, 2);
        x.raise(4, 20);
        x.image(true);
        x.feed(1, 2, 3, 4, 5);
        due("refused", x.sea(2), false);
        due("nothing done", x.look(14), 1);
        due("sea(14)", x.sea(14), true);
        int[] first = {14, 0, 0, 0, 3, 0, 0, 0, 0, 77, 0, 0, 0, 0, 0};
        for (int what = 0; what < first.length; what++) due("look(" + what + ")", x.look(what), first[what]);
        due("height", x.of(4, 0), 10);
        due("worn", x.of(3, 1), 0);
        due("last column", x.of(13, 0), 10);
        due("tape stays", x.end(20), true);
        due("fault stays", x.fault(0), 1);
        due("image stays", x.image(false), true);
        due("W again", x.look(0), 10);
        due("sea(3)", x.sea(3), true);
        due("no column 3", x.of(3, 0), -2);
        x.ship(0, 40);
        x.set(2, 0, 99);
        x.hours(2);
        due("breaks", x.look(7), 1);
        due("scraped", x.shipOf(0, 2), 2);
        x.sea(3);
        due("hour as at first", x.look(3), 0);
        due("breaks as at first", x.look(7), 0);
        due("no ship", x.shipOf(0, 2), NONE);
        x.ship(1, 1);
        due("a new ship has not scraped", x.shipOf(0, 2), 0);
    }

    private static void ships() {
        promise = 4;
        LetHorizon x = new LetHorizon();
        due("at -1", x.ship(-1, 0), NONE);
        due("at 10", x.ship(10, 0), NONE);
        due("draught -1", x.ship(0, -1), NONE);
        due("draught 41", x.ship(0, 41), NONE);
        x.raise(0, 9);
        due("refused forgets nothing", x.look(14), 1);
        for (int s = 0; s < 8; s++) due("ship", x.ship(s, s * 5), s);
        due("ninth", x.ship(0, 0), NONE);
        due("ships", x.look(1), 8);
        due("forgets", x.look(14), 0);
        due("40 can be", new LetHorizon().ship(9, 40), 0);
        promise = 18;
        due("at", x.shipOf(7, 0), 7);
        due("draught", x.shipOf(7, 1), 35);
        due("scraped", x.shipOf(7, 2), 0);
        due("another what", x.shipOf(7, 3), NONE);
        due("what -1", x.shipOf(7, -1), NONE);
        due("none such", x.shipOf(8, 0), NONE);
        due("none such", x.shipOf(-1, 0), NONE);
    }

    private static void piers() {
        promise = 5;
        LetHorizon x = new LetHorizon();
        due("at -1", x.pier(-1, 0), NONE);
        due("at 10", x.pier(10, 0), NONE);
        due("eye -1", x.pier(0, -1), NONE);
        due("eye 21", x.pier(0, 21), NONE);
        x.raise(0, 9);
        for (int p = 0; p < 6; p++) due("pier", x.pier(p, 20 - p), p);
        due("seventh", x.pier(0, 0), NONE);
        due("piers", x.look(2), 6);
        due("forgets", x.look(14), 0);
        promise = 19;
        due("at", x.pierOf(5, 0), 5);
        due("eye", x.pierOf(5, 1), 15);
        due("another what", x.pierOf(5, 3), NONE);
        due("none such", x.pierOf(6, 0), NONE);
        due("none such", x.pierOf(-1, 2), NONE);
        LetHorizon y = of(10, 14, 15, 13, 12, 16, 17);
        y.pier(4, 3);
        due("sees up to the first above", y.pierOf(0, 2), 0b0111111);
        y.set(4, 0, 3);
        due("sees from 13 and 3", y.pierOf(0, 2), 0b1111111);
        y.pier(0, 0);
        due("beside it always", y.pierOf(1, 2), 0b0000011);
    }

    private static void setting() {
        promise = 6;
        LetHorizon x = new LetHorizon();
        x.ship(0, 0);
        x.pier(0, 0);
        x.raise(0, 9);
        int[][] cannot = {{0, 0, 0}, {0, 0, 10}, {1, 0, -1}, {1, 0, 1001}, {2, -1, 0}, {2, 10, 0}, {2, 0, -1},
            {2, 0, 100}, {3, 1, 0}, {3, -1, 0}, {3, 0, 10}, {3, 0, -1}, {4, 1, 0}, {4, 0, 10}, {4, 0, -1}, {5, 0, 0},
            {-1, 0, 1}, {Integer.MIN_VALUE, 0, 1}};
        for (int[] v : cannot) due("set " + v[0] + " " + v[1] + " " + v[2], x.set(v[0], v[1], v[2]), false);
        due("nothing forgotten", x.look(14), 1);
        due("steep", x.set(0, -99, 9), true);
        due("steep told", x.look(4), 9);
        due("forgets", x.look(14), 0);
        due("steep 1", x.set(0, 0, 1), true);
        due("gusts", x.set(1, 99, 1000), true);
        due("gusts told", x.look(5), 1000);
        due("gusts 0", x.set(1, 0, 0), true);
        due("worn", x.set(2, 9, 99), true);
        due("worn told", x.of(9, 1), 99);
        due("height as it was", x.of(9, 0), 10);
        due("at", x.set(3, 0, 9), true);
        due("at told", x.shipOf(0, 0), 9);
        due("pier at", x.set(4, 0, 8), true);
        due("pier at told", x.pierOf(0, 0), 8);
    }

    private static void raising() {
        promise = 7;
        LetHorizon x = new LetHorizon();
        for (int[] v : new int[][] {{-1, 0}, {10, 0}, {0, -1}, {0, 41}}) due("raise", x.raise(v[0], v[1]), NONE);
        due("kept", x.look(14), 0);
        due("raise(0, 40)", x.raise(0, 40), 40);
        due("coin", x.look(6), -30);
        due("raise(0, 0)", x.raise(0, 0), 0);
        due("lowering is free", x.look(6), -30);
        bookLine(x, 0, 0, 0, 0, 40);
        bookLine(x, 1, 0, 0, 0, 0);
        x.set(2, 1, 99);
        due("no more than 40 less 24", x.raise(1, 40), 16);
        due("paid for all that was asked", x.look(6), -60);
        x.set(2, 2, 3);
        due("3 by 4 is 0", x.raise(2, 40), 40);
        x.set(2, 2, 4);
        due("set as it is comes down", x.raise(2, 40), 39);
        due("free then", x.look(6), -90);
        tell(x, 0, "cost height*100+by+leans;");
        due("the law is asked ahead", x.raise(5, 15), 15);
        due("height 10, by 5, leans 0", x.look(6), -90 - 999);
        tell(x, 0, "cost 0-5;");
        x.raise(5, 20);
        due("held to 0", x.look(6), -90 - 999);
    }

    private static void lifting() {
        promise = 8;
        LetHorizon x = new LetHorizon();
        for (int n : new int[] {0, 21, -21, Integer.MIN_VALUE, Integer.MAX_VALUE}) due("lift " + n, x.lift(n), NONE);
        due("kept", x.look(14), 0);
        due("lift(20)", x.lift(20), 200);
        due("lift(20)", x.lift(20), 100);
        due("held to 40", x.of(9, 0), 40);
        due("lift(-20)", x.lift(-20), 0);
        due("coin", x.look(6), -300);
        due("three undone at most", x.look(14), 3);
        due("a line each", x.look(8), 30);
        bookLine(x, 19, 0, 0, 9, 40);
        bookLine(x, 20, 0, 0, 0, 20);
        x.lift(-20);
        due("down to 0", x.of(3, 0), 0);
        x.lift(-1);
        due("0 at least", x.of(3, 0), 0);
        LetHorizon y = of(10, 10, 10);
        y.set(2, 1, 99);
        tell(y, 0, "cost leans*10+by;");
        due("column by column", y.lift(10), 10 + (10 * 10 + 10) + (6 * 10 + 10));
        due("the worn one", y.of(1, 0), 16);
        tell(y, 0, "cost 7;");
        due("dropping by the law", y.lift(-5), 21);
        due("coin", y.look(6), -(10 + 110 + 70) - 21);
    }

    private static void mending() {
        promise = 9;
        LetHorizon x = new LetHorizon();
        due("mend(-1)", x.mend(-1), NONE);
        due("mend(10)", x.mend(10), NONE);
        due("kept", x.look(14), 0);
        x.set(2, 4, 33);
        due("mend(4)", x.mend(4), 33);
        due("worn", x.of(4, 1), 0);
        due("coin", x.look(6), -33);
        bookLine(x, 0, 0, 1, 4, 33);
        due("mend(4) again", x.mend(4), 0);
        due("a line too", x.look(8), 2);
        due("undone", x.undo() && x.undo(), true);
        due("worn as ahead", x.of(4, 1), 33);
    }

    private static void hoursRefused() {
        promise = 10;
        LetHorizon x = new LetHorizon();
        for (int n : new int[] {0, -1, 61, Integer.MIN_VALUE, Integer.MAX_VALUE}) due("hours " + n, x.hours(n), NONE);
        for (int i = 0; i < 166; i++) x.hours(60);
        due("hour", x.look(3), 9960);
        due("too far", x.hours(40), NONE);
        due("nothing done", x.look(3), 9960);
        due("just to the end", x.hours(39), 0);
        due("hour", x.look(3), 9999);
        due("no more", x.hours(1), NONE);
        due("day", dayOf(x), 416 % 99);
        due("six kept", x.look(14), 6);
    }

    private static int dayOf(LetHorizon x) {
        tell(x, 0, "wear day - 396;");
        return x.of(0, 2);
    }

    private static void hourRoster() {
        promise = 10;
        LetHorizon x = of(10, 10, 10);
        x.set(2, 2, 30);
        due("roster", tell(x, 1, "at 1 set 0 to 15; at 0 lift 2; at 0 mend 2; at 0 drop 1; at 1 set 0 to 12; at 25 lift 1;"), 6);
        int before = x.look(8);
        x.hours(1);
        due("height 0", x.of(0, 0), 11);
        due("coin", x.look(6), -6 - 30);
        due("lines", x.look(8) - before, 7);
        bookLine(x, before, 0, 0, 0, 12);
        bookLine(x, before + 3, 0, 1, 2, 30);
        bookLine(x, before + 6, 0, 0, 2, 11);
        x.hours(1);
        due("two settings in one hour", x.of(0, 0), 12);
        due("coin", x.look(6), -36 - 4);
        x.hours(23);
        due("not again by the day", x.of(0, 0), 12);
        x.hours(1);
        due("at 25", x.look(8) > before + 9, true);
    }

    private static void hourShips() {
        promise = 10;
        LetHorizon x = of(10, 7, 10, 7, 10);
        int before = x.look(8);
        x.ship(2, 0);
        x.ship(0, 9);
        x.ship(4, 7);
        tell(x, 0, "wear 0;");
        x.hours(1);
        due("alike: below by number", x.shipOf(0, 0), 1);
        due("at the rim 0", x.shipOf(1, 0), 1);
        due("at the rim 4", x.shipOf(2, 0), 3);
        due("scrapes", x.shipOf(1, 2), 1);
        due("height as draught does not", x.shipOf(2, 2), 0);
        bookLine(x, before, 0, 2, 0, 1);
        bookLine(x, before + 2, 0, 2, 2, 3);
        bookLine(x, before + 3, 0, 3, 1, 2);
        LetHorizon y = of(10, 8, 10);
        y.ship(0, 0);
        y.hours(1);
        due("two is not more than two", y.shipOf(0, 0), 0);
        tell(y, 0, "slide 1 when column=0;wear 0;");
        y.hours(1);
        due("slide of the one at which it is", y.shipOf(0, 0), 1);
        LetHorizon z = of(12, 20, 11);
        z.ship(1, 0);
        z.hours(1);
        due("the lower one", z.shipOf(0, 0), 2);
    }

    private static void hourWants() {
        promise = 10;
        LetHorizon x = of(10, 10, 10);
        x.pier(1, 0);
        tell(x, 0, "wear 0;");
        int before = x.look(8);
        due("wants", tell(x, 2, "pier 0 wants 10 from 1 to 2 pays 5;pier 0 wants 11 from 0 to 23 pays 9;"
            + "pier 0 wants 10 from 2 to 2 pays 0;"), 3);
        due("hour 0", x.hours(1), 0);
        due("hour 1", x.hours(1), 1);
        due("hour 2, what pays 0 too", x.hours(1), 2);
        due("hour 3", x.hours(1), 0);
        due("coin", x.look(6), 10);
        bookLine(x, before, 1, 4, 0, 5);
        bookLine(x, before + 2, 2, 4, 2, 0);
        due("the next day", x.hours(22), 1);
        x.set(4, 0, 2);
        x.raise(2, 11);
        due("sixty hours", x.hours(60), 60);
    }

    private static void hourWear() {
        promise = 10;
        LetHorizon x = of(0, 20, 20);
        int before = x.look(8);
        x.set(2, 1, 79);
        x.set(2, 2, 98);
        x.hours(1);
        due("height 0 does not wear", x.of(0, 1), 0);
        due("broken", x.of(1, 0), 0);
        due("worn 0 then", x.of(1, 1), 0);
        due("asked at its turn: leans by the broken one", x.of(2, 0), 0);
        due("breaks", x.look(7), 2);
        bookLine(x, before, 0, 5, 1, 20);
        bookLine(x, before + 1, 0, 5, 2, 20);
        LetHorizon y = of(5, 5, 5);
        y.set(2, 0, 99);
        y.hours(1);
        due("at 99 without wear too", y.of(0, 0), 0);
        LetHorizon z = of(5, 5, 5);
        z.set(2, 0, 98);
        tell(z, 0, "wear 99;");
        z.hours(1);
        due("99 at most: all break", z.look(7), 3);
    }

    private static void hourGusts() {
        promise = 10;
        LetHorizon x = of(0, 0, 0, 0);
        int before = x.look(8);
        x.set(1, 0, 1000);
        x.state(5);
        x.hours(1);
        due("a gust at 0 is noted", x.book(before, 1), 6);
        due("0 at least", x.book(before, 3), 0);
        int state = 1664525 * 5 + 1013904223;
        state = 1664525 * state + 1013904223;
        due("two draws", x.look(9), state);
        due("which", x.book(before, 2), (state >>> 8) % 4);
        x.undo();
        due("state is undone", x.look(9), 5);
        LetHorizon y = new LetHorizon();
        y.state(1);
        y.hours(3);
        due("no draws without gusts", y.look(9), 1);
    }

    private static void tape() {
        promise = 11;
        LetHorizon x = new LetHorizon();
        for (int i = 1; i <= 20; i++) due("feed", x.feed(0, 0, 0, 0, 0), i * 20);
        due("no more", x.feed(0, 0, 0, 0, 0), NONE);
        due("nothing came", x.end(401), false);
        due("end(381)", x.end(381), true);
        due("would be 401", x.feed(0, 0, 0, 0, 0), NONE);
        due("end(380)", x.end(380), true);
        due("just 400", x.feed(0, 0, 0, 0, 0), 400);
        due("end(0)", x.end(0), true);
        due("the highest first", x.feed(0x77656172, 0x20373b00, 0, 0, 0), 20);
        due("end(7)", x.end(7), true);
        due("a line", x.text(0), 1);
        due("wear", x.of(0, 2), 7);
        promise = 12;
        due("empty", x.end(1), false);
        x.feed(0, 0, 0, 0, 0);
        due("below 0", x.end(-1), false);
        due("so many not", x.end(21), false);
        due("as many", x.end(20), true);
        due("behind 20", x.feed(0, 0, 0, 0, 0), 40);
        due("forgets nothing", undoableAfterTape(), 1);
    }

    private static int undoableAfterTape() {
        LetHorizon x = new LetHorizon();
        x.raise(0, 1);
        x.feed(1, 1, 1, 1, 1);
        x.end(0);
        return x.look(14);
    }

    private static void texts() {
        promise = 13;
        LetHorizon x = new LetHorizon();
        x.pier(0, 0);
        due("no such text", x.text(-1), NONE);
        due("fault 0", x.fault(0), 0);
        faulty(x, 0, "wear", 1, 4);
        due("no such text", x.text(3), NONE);
        due("fault 0", x.fault(0), 0);
        due("its place", x.fault(1), NONE);
        x.feed(0, 0, 0, 0, 0);
        x.text(9);
        due("the tape is empty then", x.feed(0, 0, 0, 0, 0), 20);
        x.end(0);
        due("two lines", tell(x, 0, "wear 1;\nsun 2 ; "), 2);
        due("look(10)", x.look(10), 2);
        faulty(x, 0, "slide 1;wear 1+;", 1, 15);
        due("it stays", x.look(10), 2);
        due("wear stays", x.of(0, 2), 1);
        due("the tape is empty after a fault", x.feed(0, 0, 0, 0, 0), 20);
        x.end(0);
        due("roster", tell(x, 1, "at 999 set 9 to 40;at 0 lift 20;at 0 drop 1;at 5 mend 0;"), 4);
        faulty(x, 1, "at 1", 1, 4);
        due("look(11)", x.look(11), 4);
        due("wants", tell(x, 2, "pier 0 wants 40 from 23 to 23 pays 99;pier 0 wants 0 from 0 to 0 pays 0;"), 2);
        faulty(x, 2, "pier 0", 1, 6);
        due("look(12)", x.look(12), 2);
        due("empty", x.text(2), 0);
        due("look(12)", x.look(12), 0);
        due("only blanks", tell(x, 0, "  \n "), 0);
        due("no blanks needed", tell(x, 0, "wear1when1<2and3>2;"), 1);
        due("four digits", tell(x, 0, "wear 0009;"), 1);
        due("wear", x.of(0, 2), 9);
        due("sixteen", tell(x, 0, times("sun 1;", 16)), 16);
        due("sixteen", tell(x, 1, times("at 0 lift 1;", 16)), 16);
        due("twelve", tell(x, 2, times("pier 0 wants 1 from 1 to 1 pays 1;", 11)), 11);
        due("twelve", tell(x, 2, times("pier 0wants 1from 1to 1pays 1;", 12)), 12);
    }

    private static void lawFaults() {
        promise = 14;
        LetHorizon x = new LetHorizon();
        due("another what", x.fault(2), NONE);
        due("what -1", x.fault(-1), NONE);
        faulty(x, 0, "wear 1 ", 1, 7);
        faulty(x, 0, " weary 1;", 1, 1);
        faulty(x, 0, "Wear 1;", 1, 0);
        faulty(x, 0, "wearX 1;", 1, 0);
        faulty(x, 0, "at 1;", 1, 0);
        faulty(x, 0, "wear ;", 1, 5);
        faulty(x, 0, "wear 1 1;", 1, 7);
        faulty(x, 0, "wear -1;", 1, 5);
        faulty(x, 0, "wear (1);", 1, 5);
        faulty(x, 0, "wear 12345;", 1, 5);
        faulty(x, 0, "wear 1/by;", 1, 7);
        faulty(x, 0, "wear 1/12345;", 1, 7);
        faulty(x, 0, "wear 1/0;", 2, 7);
        faulty(x, 0, "wear 1 / 0000 + ;", 2, 9);
        faulty(x, 0, "wear 1 when ;", 1, 12);
        faulty(x, 0, "wear 1 when 1;", 1, 13);
        faulty(x, 0, "wear 1 when 1<2<3;", 1, 15);
        faulty(x, 0, "wear 1 when (1<2;", 1, 16);
        faulty(x, 0, "wear 1 when (1)<2;", 1, 14);
        faulty(x, 0, "wear 1 when 1<2);", 1, 15);
        faulty(x, 0, "wear 1 when 1<2 and;", 1, 19);
        faulty(x, 0, "wear 1 when not;", 1, 15);
        faulty(x, 0, "wear 1\t;", 1, 6);
        faulty(x, 0, "wear " + (char) 233 + ";", 1, 5);
        faulty(x, 0, "" + (char) 0, 1, 0);
        faulty(x, 0, times("sun 1;", 16) + " sun 1/0;", 3, 97);
        faulty(x, 0, times("sun 1;", 16) + " at", 1, 97);
        faulty(x, 0, times("sun 1;", 15) + "sun 1/0;sun", 2, 96);
        due("eight open", tell(x, 0, "sun 1 when " + times("(", 8) + "1=1" + times(")", 8) + ";"), 1);
        faulty(x, 0, "sun 1 when " + times("(", 9) + "1=1" + times(")", 9) + ";", 3, 19);
        due("eight again and again", tell(x, 0, "sun 1 when " + times("not ", 8) + "1=1 and " + times("not ", 8) + "1=1;"), 1);
        faulty(x, 0, "sun 1 when " + times("not(", 4) + "not 1=1", 3, 27);
        due("closed ones are not open", tell(x, 0, "sun 1 when ((((((((1=1) and (2=2)))))))) or (not 1=1);"), 1);
        faulty(x, 0, "sun 1 when " + times("(", 8) + "1=1) and not (1=1)", 3, 32);
        faulty(x, 0, "sun 1 (", 1, 6);
        String others = "column height worn hour day leans by when or and not at set lift drop mend to pier wants from pays";
        for (String word : others.split(" ")) faulty(x, 0, word + " 1;", 1, 0);
        String noUnits = "wear slide cost sun when or and not at set lift drop mend to pier wants from pays";
        for (String word : noUnits.split(" ")) {
            faulty(x, 0, "wear " + word + ";", 1, 5);
            faulty(x, 0, "wear 1+" + word + ";", 1, 7);
            faulty(x, 0, "wear 1*" + word + ";", 1, 7);
            faulty(x, 0, "wear 1 when 1=" + word + ";", 1, 14);
        }
        for (char letter : "azAZmM".toCharArray()) faulty(x, 0, "wear" + letter + " 1;", 1, 0);
        for (char sign : "@[`{_.,:?!%&'\"#~\r".toCharArray()) faulty(x, 0, "wear" + sign + " 1;", 1, 4);
        for (int b : new int[] {0, 1, 2, 9, 31, 127, 128, 160, 225, 255}) faulty(x, 0, "wear 1" + (char) b + ";", 1, 6);
    }

    private static void longLaws() {
        promise = 13;
        LetHorizon x = new LetHorizon();
        String law = "";
        for (int i = 0; i < 15; i++) law += "wear " + i + " when column>" + (14 - i) + ";";
        for (int again = 0; again < 12; again++) {
            due("fifteen lines", tell(x, 0, law), 15);
            due("the last one", tell(x, 0, law + "wear 1+2*3;"), 16);
            due("wear", x.of(9, 2), 6);
            due("wear", x.of(0, 2), 7);
        }
        String longest = "sun 1" + times("+1", 197) + ";";
        due("400 bytes", longest.length(), 400);
        due("a long sum", tell(x, 0, longest), 1);
        due("held", x.sun(0, 0), 99);
        due("a long sum", tell(x, 0, "sun 98" + times("+1-1", 97) + "+1;"), 1);
        due("sun", x.sun(0, 0), 99);
        due("deep and wide", tell(x, 0, "wear 1 when " + times("1=2 or 1=1 and (", 8) + "1+1*1=2*1*1+0" + times(")", 8) + ";wear 2;"), 2);
        due("so", x.of(0, 2), 1);
        due("deep and wide", tell(x, 0, "wear 1 when " + times("1=2 or 1=1 and (", 8) + "1+1*1=2*1*1+1" + times(")", 8) + ";wear 2;"), 2);
        due("not so", x.of(0, 2), 2);
    }

    /** Each comparison and joining, with what is below, alike and above. */
    private static void conditions() {
        promise = 15;
        String[] so = {"1<2", "2=2", "3>2", "not 2<2", "not 2>2", "not 2=3", "1=1 and 2=2", "1=2 or 2=2", "2=2 or 1=2",
            "not (1=1 and 1=2)", "not 1=1 or 1=1", "1=2 and 1=2 or 1=1", "1=1 or 1=2 and 1=2", "(1=2 or 1=1) and 1=1",
            "1=2 or 1=2 or 1=1", "1=1 and 1=1 and 1=1", "not not 1=1", "not (not 1=1)", "0-7/2=0-3", "(1=1)",
            "0-7<0-6", "2*3+4*5=26", "7/2*2=6", "2*7/2=7", "10-2-3=5"};
        String[] not = {"2<2", "3<2", "1=2", "2>2", "1>2", "not 1=1", "1=1 and 1=2", "1=2 and 1=1", "1=2 or 1=2",
            "not (1=1 or 1=2)", "not not 1=2", "1=1 and 1=1 and 1=2", "1=2 or 1=2 or 1=2", "(1=1 or 1=1) and 1=2"};
        for (String b : so) due(b, wearBy("wear 5 when " + b + ";wear 6;"), 5);
        for (String b : not) due(b, wearBy("wear 5 when " + b + ";wear 6;"), 6);
        due("below 0, towards 0", wearBy("wear 5 when by-7=0-7 and column-7+by*0=0-7;"), 5);
        due("hour 0 less 7, by 2", sunBy("sun 10+hour-9 when hour-9/2=0-3;sun 77;", 1), 2);
        due("a part", sunBy("sun 50+by-7*3/2;", 0), 40);
        int wrapped = 9999 * 9999 * 22;
        due("it wraps below 0", wrapped < 0, true);
        due("a part of what is below 0", sunBy("sun 9999*9999*22/9999/9999+50;", 0), wrapped / 9999 / 9999 + 50);
        due("towards 0", wrapped / 9999 / 9999 != Math.floorDiv(Math.floorDiv(wrapped, 9999), 9999), true);
    }

    private static int sunBy(String law, int hour) {
        LetHorizon x = new LetHorizon();
        tell(x, 0, law);
        return x.sun(0, hour);
    }

    private static void rowFaults() {
        promise = 14;
        LetHorizon x = new LetHorizon();
        x.pier(0, 0);
        faulty(x, 1, "wear 1;", 1, 0);
        faulty(x, 1, "at lift 1;", 1, 3);
        faulty(x, 1, "at 1000 lift;", 2, 3);
        faulty(x, 1, "at 0 pays 1;", 1, 5);
        faulty(x, 1, "at 0 lift 0;", 2, 10);
        faulty(x, 1, "at 0 drop 21", 2, 10);
        faulty(x, 1, "at 0 mend 10;", 2, 10);
        faulty(x, 1, "at 0 set 10 to 1;", 2, 9);
        faulty(x, 1, "at 0 set 9 1;", 1, 11);
        faulty(x, 1, "at 0 set 9 to 41;", 2, 14);
        faulty(x, 1, "at 0 lift 1", 1, 11);
        faulty(x, 1, "at 0 lift 1+1;", 1, 11);
        faulty(x, 1, times("at 0 lift 1;", 16) + "\nat", 3, 193);
        faulty(x, 1, times("at 0 lift 1;", 16) + "lift", 1, 192);
        faulty(x, 2, "at 0 lift 1;", 1, 0);
        faulty(x, 2, "pier 1 wants", 2, 5);
        faulty(x, 2, "pier 0 wants 41 ", 2, 13);
        faulty(x, 2, "pier 0 wants 40 from 24 ", 2, 21);
        faulty(x, 2, "pier 0 wants 40 from 5 to 24", 2, 26);
        faulty(x, 2, "pier 0 wants 40 from 5 to 4 pays 1;", 2, 26);
        faulty(x, 2, "pier 0 wants 40 from 5 to 5 pays 100;", 2, 33);
        faulty(x, 2, "pier 0 wants 40 from 5 to 5 pays 10", 1, 35);
        faulty(x, 2, "pier 0 wants 40 from 5 to 5 costs 10;", 1, 28);
        faulty(x, 2, times("pier 0wants 1from 1to 1pays 1;", 12) + "pier", 3, 360);
        faulty(x, 2, times("pier 0wants 1from 1to 1pays 1;", 12) + "piers", 1, 360);
        faulty(new LetHorizon(), 2, "pier 0", 2, 5);
    }

    private static void laws() {
        promise = 15;
        LetHorizon x = of(10, 13, 9, 9);
        x.set(2, 1, 21);
        for (int[] v : new int[][] {{-1, 0}, {4, 0}, {0, 6}, {0, -1}}) due("of", x.of(v[0], v[1]), -2);
        due("height", x.of(1, 0), 13);
        due("worn", x.of(1, 1), 21);
        due("wear is leans", x.of(1, 2), 4);
        due("slide", x.of(1, 3), 2);
        due("dusk: 60 - 48 is 12", x.of(1, 4), 16);
        due("leans", x.of(0, 5), 3);
        due("leans", x.of(3, 5), 0);
        x.hours(26);
        int[] seen = new int[8];
        String[] names = {"column", "height", "worn", "hour", "day", "leans", "by"};
        for (int i = 0; i < 7; i++) {
            tell(x, 0, "wear " + names[i] + ";");
            seen[i] = x.of(1, 2);
        }
        due("column", seen[0], 1);
        due("height", seen[1], x.of(1, 0));
        due("worn", seen[2], x.of(1, 1));
        due("hour", seen[3], 2);
        due("day", seen[4], 1);
        due("leans", seen[5], x.of(1, 5));
        due("by", seen[6], 0);
        due("the first line that is so", wearBy("wear 1 when 1>2;slide 5;wear 2 when 1<2;wear 3;"), 2);
        due("none is so", wearBy("wear 1 when 1>2;"), 0);
        due("* ahead of +", wearBy("wear 2+3*4-1;"), 13);
        due("from the left", wearBy("wear 20-5-3;"), 12);
        due("from the left", wearBy("wear 7/2*2;"), 6);
        due("towards 0", wearBy("wear 10+0*1+3*0;"), 10);
        due("towards 0", wearBy("wear 50-7/2;"), 47);
        due("towards 0 below 0", wearBy("wear 9 when 0-7=0-7;"), 9);
        due("and ahead of or", wearBy("wear 1 when 1=1 or 1=1 and 1=2;"), 1);
        due("and ahead of or", wearBy("wear 1 when 1=2 and 1=1 or 1=1;"), 1);
        due("( )", wearBy("wear 1 when (1=1 or 1=1) and 1=2;wear 2;"), 2);
        due("not its C alone", wearBy("wear 1 when not 1=1 or 1=1;wear 2;"), 1);
        due("not not", wearBy("wear 1 when not not 1=2;wear 2;"), 2);
        due("held to 99", wearBy("wear 100;"), 99);
        due("held to 0", wearBy("wear 0-1;"), 0);
        due("wraps", wearBy("wear 1 when 9999*9999*9999<0;wear 2;"), wrapped() < 0 ? 1 : 2);
        due("a part towards 0", wearBy("wear 1 when by-7=by-3-4;"), 1);
        tell(x, 0, "slide 41;");
        due("slide to 40", x.of(0, 3), 40);
        tell(x, 0, "sun 41+hour;");
        due("no dusk", x.of(0, 4), NONE);
    }

    private static int wrapped() {
        return 9999 * 9999 * 9999;
    }

    private static int wearBy(String law) {
        LetHorizon x = new LetHorizon();
        tell(x, 0, law);
        return x.of(0, 2);
    }

    private static void suns() {
        promise = 16;
        LetHorizon x = of(10, 20, 10);
        for (int[] v : new int[][] {{-1, 0}, {3, 0}, {0, 24}, {0, -1}}) due("sun", x.sun(v[0], v[1]), NONE);
        due("at 0", x.sun(0, 0), 60);
        due("at 19", x.sun(2, 19), 3);
        due("at 20", x.sun(2, 20), 0);
        due("at 21", x.sun(2, 21), 0);
        x.set(2, 0, 7);
        x.hours(30);
        tell(x, 0, "sun hour*1+day*10+column*20+leans+by;");
        due("its own hour, the day that is", x.sun(1, 5), 5 + 10 + 20 + x.of(1, 5));
        tell(x, 0, "sun worn;");
        due("worn", x.sun(0, 5), x.of(0, 1));
        tell(x, 0, "sun 100;");
        due("99 at most", x.sun(0, 5), 99);
        tell(x, 0, "sun (");
        due("a fault leaves the law", x.sun(0, 5), 99);
        tell(x, 0, "sun 0-7/2+50;");
        due("7 by 2 towards 0", x.sun(0, 5), 47);
        tell(x, 0, "sun height-17;");
        due("below 0 is 0", x.sun(0, 5), 0);
        tell(x, 0, "sun 3-hour/2*1 when hour>0;");
        due("a part", x.sun(0, 5), 1);
    }

    private static void costs() {
        promise = 17;
        LetHorizon x = of(10, 20, 10);
        for (int[] v : new int[][] {{-1, 0}, {3, 0}, {0, 41}, {0, -1}}) due("costs", x.costs(v[0], v[1]), NONE);
        due("up", x.costs(0, 40), 30);
        due("down", x.costs(0, 0), 0);
        tell(x, 0, "cost by*by+height+leans;");
        due("by the law", x.costs(0, 15), 25 + 10 + 10);
        due("999 at most", x.costs(0, 40), 910 + 10);
        tell(x, 0, "cost 1000;");
        due("999 at most", x.costs(0, 40), 999);
        due("nothing done", x.of(0, 0), 10);
    }

    private static void books() {
        promise = 20;
        LetHorizon x = new LetHorizon();
        x.hours(3);
        x.raise(2, 11);
        bookLine(x, 0, 3, 0, 2, 11);
        due("none such", x.book(1, 0), NONE);
        due("none such", x.book(-1, 0), NONE);
        due("another what", x.book(0, 4), NONE);
        due("another what", x.book(0, -1), NONE);
        for (int i = 0; i < 7; i++) x.lift(1);
        for (int i = 0; i < 7; i++) x.lift(-1);
        due("141", x.look(8), 141);
        x.lift(2);
        due("150 and no more", x.look(8), 150);
        bookLine(x, 149, 3, 0, 8, 12);
        due("none such", x.book(150, 0), NONE);
        x.raise(0, 3);
        due("done all the same", x.of(0, 0), 3);
        x.undo();
        due("full still", x.look(8), 150);
        x.undo();
        due("as ahead", x.look(8), 141);
        x.raise(1, 40);
        bookLine(x, 141, 3, 0, 1, 40);
    }

    private static void goes() {
        promise = 21;
        LetHorizon x = of(10, 10, 20, 10);
        for (int[] v : new int[][] {{0, 0}, {100, 0}, {-1, 0}, {1, 5}, {1, -1}}) due("goes", x.goes(v[0], v[1]), -100000);
        due("no ship", x.goes(99, 3), NONE);
        x.ship(0, 5);
        x.ship(1, 15);
        x.ship(2, 12);
        x.set(1, 0, 1000);
        x.pier(3, 0);
        tell(x, 2, "pier 0 wants 10 from 0 to 1 pays 7;");
        tell(x, 1, "at 0 lift 1;at 1 drop 1;");
        int coin = x.look(6);
        due("coin in thought", x.goes(2, 0), coin - 4 + 7);
        due("scraped in thought: 1 and 2", x.goes(1, 1), 2);
        due("the least ship of an hour", x.goes(5, 3), 1);
        due("the hour of now is the first", x.goes(1, 3), 1);
        due("breaks at the tenth hour", x.goes(9, 2), 0);
        due("breaks at the tenth hour", x.goes(10, 4), 1);
        due("three of them", x.goes(10, 2) > 0, true);
        due("nothing stays: hour", x.look(3), 0);
        due("nothing stays: state", x.look(9), 0);
        due("nothing stays: coin", x.look(6), coin);
        due("nothing stays: heights", x.of(0, 0), 10);
        due("nothing stays: ships", x.shipOf(2, 0), 2);
        due("nothing stays: the book", x.look(8), 4);
        due("nothing is kept", x.look(14), 0);
        x.set(1, 0, 0);
        int thought = x.goes(60, 0);
        int breaks = x.goes(60, 2);
        x.hours(60);
        due("as it goes", x.look(6), thought);
        due("as it goes", x.look(7), breaks);
        due("what was scraped ahead counts", x.goes(1, 1) >= x.shipOf(0, 2) + x.shipOf(1, 2) + x.shipOf(2, 2), true);
    }

    private static void meets() {
        promise = 22;
        LetHorizon x = new LetHorizon();
        x.pier(0, 0);
        x.pier(2, 0);
        x.pier(2, 5);
        for (int[] v : new int[][] {{-1, 0}, {24, 0}, {0, 4}, {0, -1}}) due("meets", x.meets(v[0], v[1]), NONE);
        tell(x, 2, "pier 0 wants 10 from 0 to 9 pays 5;pier 1 wants 16 from 0 to 5 pays 6;"
            + "pier 1 wants 17 from 0 to 9 pays 9;pier 2 wants 17 from 5 to 9 pays 2;pier 0 wants 0 from 0 to 9 pays 0;");
        due("two columns, six feet", x.meets(0, 0), 11);
        due("the set", x.meets(0, 1), 0b00011);
        due("clash", x.meets(0, 2), 0);
        due("clash", x.meets(0, 3), 2);
        due("9 and 2 are 11 too: the least set", x.meets(5, 0), 11);
        due("the least set", x.meets(5, 1), 0b00011);
        due("without the second", x.meets(6, 0), 11);
        due("the set", x.meets(6, 1), 0b01100);
        due("clash", x.meets(6, 3), 2);
        x.set(0, 0, 4);
        due("less steep", x.meets(6, 0), 16);
        due("what pays nothing is left out", x.meets(6, 1), 0b01101);
        due("0 and 10 for one", x.meets(6, 2), 0);
        due("0 and 10 for one", x.meets(6, 3), 4);
        due("none then", x.meets(10, 0), 0);
        due("none then", x.meets(10, 1), 0);
        due("none then", x.meets(10, 2), NONE);
        due("none then", x.meets(10, 3), NONE);
        due("twelve lines", tell(x, 2, times("pier 0wants 9from 0to 9pays 1;", 11) + "pier 0wants 8from 0to 9pays 9;"), 12);
        due("eleven alike pay more than the last", x.meets(0, 0), 11);
        due("eleven alike", x.meets(0, 1), 0b011111111111);
        due("the first", x.meets(0, 2), 0);
        due("and the last", x.meets(0, 3), 11);
        due("twelve lines", tell(x, 2, times("pier 0wants 9from 0to 9pays 1;", 11) + "pier 0wants 8from 0to 9pays 11;"), 12);
        due("as much: the least set", x.meets(0, 1), 0b011111111111);
        due("twelve together", tell(x, 2, times("pier 0wants 9from 0to 9pays 99;", 12)), 12);
        due("all", x.meets(9, 0), 12 * 99);
        due("all", x.meets(9, 1), 0b111111111111);
        due("no clash", x.meets(9, 2), NONE);
    }

    private static void smooth() {
        promise = 23;
        LetHorizon x = of(0, 10, 0);
        for (int what : new int[] {-1, 1, 9, 13, Integer.MAX_VALUE, Integer.MIN_VALUE}) due("smooth " + what, x.smooth(what), NONE);
        due("feet", x.smooth(0), 7);
        due("first", x.smooth(10), 0);
        due("second", x.smooth(11), 3);
        due("third", x.smooth(12), 0);
        LetHorizon y = of(0, 0, 10, 10);
        due("feet", y.smooth(0), 8);
        due("the lesser ahead", y.smooth(10), 0);
        due("the lesser ahead", y.smooth(11), 3);
        due("the lesser ahead", y.smooth(12), 6);
        due("the lesser ahead", y.smooth(13), 9);
        y.set(0, 0, 9);
        due("one foot", y.smooth(0), 1);
        LetHorizon z = of(40, 40, 20, 40);
        due("up to the top", z.smooth(0), 17);
        due("up to the top", z.smooth(10), 40);
        due("up to the top", z.smooth(12), 37);
        due("the lesser", y.smooth(12), 9);
        due("nothing done", y.of(1, 0), 0);
    }

    private static void folds() {
        promise = 24;
        due("none", new LetHorizon().folds(), 0);
        due("more than two, at both rims", of(0, 3, 0, 2, 0, 3).folds(), 0b000001);
        due("between", of(5, 2, 5, 9, 6).folds(), 0b10010);
        LetHorizon x = of(5, 3, 5, 10);
        due("two is not more", x.folds(), 0);
        tell(x, 0, "slide 1 when column=0;slide 9 when column=1;");
        due("slide of those beside it", x.folds(), 0);
        tell(x, 0, "slide 1 when column=0 or column=2;slide 9;");
        due("slide of those beside it", x.folds(), 0b0010);
    }

    private static void sunsets() {
        promise = 25;
        LetHorizon x = new LetHorizon();
        x.raise(0, 9);
        for (int[] v : new int[][] {{-2, 0}, {10, 0}, {0, -1}, {0, 24}}) due("sunset", x.sunset(v[0], v[1]), NONE);
        for (int i = 1; i <= 8; i++) due("sunset", x.sunset(9, 23), i);
        due("ninth", x.sunset(0, 0), NONE);
        due("look(13)", x.look(13), 8);
        due("none is then", x.sunset(NONE, 99), 0);
        due("look(13)", x.look(13), 0);
        due("forgets nothing", x.look(14), 1);
    }

    private static void lifted() {
        promise = 26;
        LetHorizon x = of(10, 20, 40);
        due("another what", x.lifted(3), -100);
        due("another what", x.lifted(-1), -100);
        due("all", x.lifted(0), 41);
        due("the least", x.lifted(1), -20);
        x.sunset(0, 20);
        due("0 held: ten and more below, to 2", x.lifted(0), 13 - 0);
        due("the least", x.lifted(1), -20);
        x.sunset(1, 19);
        due("3 or 5 and less: -17 to -15", x.lifted(0), 3);
        due("least", x.lifted(1), -17);
        due("look", x.lifted(2), 2);
        x.sunset(0, 1);
        due("none", x.lifted(0), 0);
        due("none", x.lifted(1), -100);
        due("fewer than two", x.lifted(2), NONE);
        LetHorizon y = of(10, 10, 10);
        tell(y, 0, "sun height+1 when height<40 and hour<5;sun 99;");
        y.sunset(0, 5);
        due("the law is asked with that height: never", y.lifted(0), 0);
        LetHorizon z = of(10, 10, 30);
        tell(z, 0, "sun 99 when hour<leans;sun 0;");
        z.sunset(1, 10);
        due("leans of the line so lifted: held at 0 and 40", z.lifted(0), 2);
        due("the least", z.lifted(1), -20);
    }

    private static void over() {
        promise = 27;
        LetHorizon x = of(10, 20, 10, 10);
        due("no pier", x.over(0), 0);
        x.pier(0, 9);
        x.pier(3, 10);
        due("other bits", x.over(16), NONE);
        due("other bits", x.over(-1), NONE);
        due("none asked", x.over(0), 3);
        due("all", x.over(15), 2);
        due("the near ones", x.over(3), 3);
        due("the far ones", x.over(12), 2);
        promise = 28;
        due("one", x.watch(0), 1);
        due("which", x.watch(1), 2);
        due("another what", x.watch(2), NONE);
        due("another what", x.watch(-1), NONE);
        LetHorizon y = of(10, 20, 10, 10);
        due("no pier", y.watch(0), NONE);
        y.pier(0, 0);
        due("all together do not", y.watch(0), NONE);
        due("all together do not", y.watch(1), NONE);
        y.pier(3, 0);
        y.pier(3, 3);
        due("two", y.watch(0), 2);
        due("the least set", y.watch(1), 0b011);
    }

    private static void coils() {
        promise = 29;
        LetHorizon x = of(5, 5, 5, 0, 7, 3);
        for (int[] v : new int[][] {{0, 0}, {201, 0}, {-1, 0}, {10, 1}, {10, 9}, {10, -1}, {10, Integer.MIN_VALUE},
            {10, Integer.MAX_VALUE}}) due("coils", x.coils(v[0], v[1]), NONE);
        due("a column above", x.coils(6, 0), NONE);
        due("a column above", x.coils(6, 10), NONE);
        due("how many", x.coils(10, 0), 3);
        due("the longer", x.coils(10, 10), 2);
        due("with the empty one", x.coils(10, 11), 2);
        due("the last", x.coils(10, 12), 2);
        due("none such", x.coils(10, 13), NONE);
        due("one", x.coils(200, 0), 1);
        due("one", x.coils(200, 10), 6);
        due("just", x.coils(25, 0), 1);
        due("not just", x.coils(24, 11), 1);
    }

    private static void moors() {
        promise = 30;
        LetHorizon x = of(10, 20, 10, 30);
        due("no ships", x.moors(0), 0);
        due("none such", x.moors(10), NONE);
        due("another what", x.moors(1), NONE);
        due("another what", x.moors(-1), NONE);
        due("another what", x.moors(Integer.MAX_VALUE), NONE);
        x.ship(1, 5);
        x.ship(1, 5);
        due("one goes aside", x.moors(0), 1);
        due("the lesser first", x.moors(10), 0);
        due("the other stays", x.moors(11), 1);
        x.ship(0, 20);
        due("the sum", x.moors(0), 3);
        due("first way", x.moors(10), 0);
        due("first way", x.moors(11), 2);
        due("needs 20", x.moors(12), 1);
        due("none such", x.moors(13), NONE);
        x.ship(3, 31);
        due("no way", x.moors(0), NONE);
        due("no way", x.moors(10), NONE);
        LetHorizon y = of(1, 2, 3, 4, 5, 6, 7, 8, 9, 10, 11, 12, 13, 14);
        for (int s = 0; s < 8; s++) y.ship(0, 14 - s);
        due("eight in a line", y.moors(0), 13 + 12 + 11 + 10 + 9 + 8 + 7 + 6);
        due("the last", y.moors(17), 6);
    }

    private static void fees() {
        promise = 31;
        LetHorizon x = new LetHorizon();
        for (int[] v : new int[][] {{-1, 0}, {10000, 0}, {0, -1}, {0, 1000}}) due("fee", x.fee(v[0], v[1]), NONE);
        due("0", x.fee(0, 999), 0);
        due("as it is", x.fee(9999, 0), 9999);
        due("greatest", x.fee(9999, 999), 9999000);
        due("upwards", x.fee(1, 1), 2);
        due("just", x.fee(999, 1), 1000);
        promise = 32;
        due("no pier", x.part(5, 0), NONE);
        x.pier(0, 0);
        x.pier(1, 0);
        x.pier(2, 0);
        for (int[] v : new int[][] {{-1, 0}, {10000, 0}, {5, -1}, {5, 3}}) due("part", x.part(v[0], v[1]), NONE);
        due("alike: the least", x.part(11, 0), 4);
        due("alike: the least", x.part(11, 1), 4);
        due("alike: the least", x.part(11, 2), 3);
        tell(x, 0, "sun 0 when column=0;sun 0 when column=1 and hour=1;sun 99;");
        due("weights 1, 2, 25", x.part(28, 0), 1);
        due("weights 1, 2, 25", x.part(28, 1), 2);
        due("weights 1, 2, 25", x.part(28, 2), 25);
        due("the greatest rest", x.part(10, 2), 9);
        due("the greatest rest", x.part(10, 1), 1);
        due("the greatest rest", x.part(10, 0), 0);
        due("all of it", x.part(9999, 0) + x.part(9999, 1) + x.part(9999, 2), 9999);
        due("nothing", x.part(0, 0), 0);
    }

    private static void games() {
        promise = 33;
        LetHorizon x = of(0, 0, 0);
        due("nothing to lower", x.game(0), NONE);
        x.raise(1, 4);
        due("four is lost", x.game(0), NONE);
        due("four is lost", x.game(1), NONE);
        x.raise(1, 7);
        due("column", x.game(0), 1);
        due("by", x.game(1), 3);
        due("another what", x.game(2), NONE);
        due("another what", x.game(-1), NONE);
        heights(x, 4, 1, 0);
        due("the least: four to three and a third beside", x.game(0), 0);
        due("by three", x.game(1), 3);
        heights(x, 1, 3, 0);
        due("1 can't be raised", x.game(0), 1);
        due("by two", x.game(1), 2);
        heights(x, 0, 0, 3);
        due("the last feet", x.game(0), 2);
        due("the last feet", x.game(1), 3);
    }

    private static void undoing() {
        promise = 34;
        LetHorizon x = new LetHorizon();
        due("nothing", x.undo(), false);
        for (int i = 0; i < 8; i++) x.raise(0, i);
        due("six", x.look(14), 6);
        for (int i = 6; i >= 1; i--) {
            due("undo", x.undo(), true);
            due("height", x.of(0, 0), i);
        }
        due("no more", x.undo(), false);
        due("height", x.of(0, 0), 1);
        x.hours(3);
        x.lift(2);
        x.mend(1);
        due("hours one by one", x.look(14), 5);
        tell(x, 0, "wear 0;");
        x.sunset(1, 1);
        x.text(2);
        x.image(true);
        due("kept by law, wants, sunsets, the image", x.look(14), 5);
        x.undo();
        x.undo();
        x.undo();
        due("hour", x.look(3), 2);
        due("the law stays", x.look(10), 1);
        due("the sunset stays", x.look(13), 1);
        faulty(x, 1, "at", 1, 2);
        due("a fault forgets nothing", x.look(14), 2);
        x.text(7);
        due("nor no text", x.look(14), 2);
        x.text(1);
        due("a roster forgets", x.look(14), 0);
        due("nothing", x.undo(), false);
        x.raise(0, 3);
        x.sea(10);
        due("a sea forgets", x.undo(), false);
    }

    private static void images() {
        promise = 35;
        LetHorizon x = new LetHorizon();
        due("none", x.image(false), false);
        x.state(9);
        x.ship(1, 2);
        x.pier(3, 4);
        x.set(0, 0, 7);
        x.set(1, 0, 300);
        x.sunset(2, 3);
        tell(x, 0, "wear 5;");
        tell(x, 1, "at 2 lift 3;");
        tell(x, 2, "pier 0 wants 10 from 0 to 23 pays 1;");
        x.hours(1);
        due("taken", x.image(true), true);
        due("nothing forgotten", x.look(14), 1);
        int[] then = new int[14];
        for (int what = 0; what < 14; what++) then[what] = x.look(what);
        int[] line = {x.of(3, 0), x.of(3, 1), x.book(0, 3), x.shipOf(0, 0)};
        x.hours(20);
        int later = x.look(6);
        int laterState = x.look(9);
        for (int again = 0; again < 2; again++) {
            x.sea(4);
            x.raise(0, 7);
            x.feed(1, 2, 3, 4, 5);
            tellFault(x);
            x.feed(1, 2, 3, 4, 5);
            due("gone back to", x.image(false), true);
            for (int what = 0; what < 14; what++) due("look(" + what + ")", x.look(what), then[what]);
            due("nothing to undo", x.undo(), false);
            due("height", x.of(3, 0), line[0]);
            due("worn", x.of(3, 1), line[1]);
            due("book", x.book(0, 3), line[2]);
            due("ship", x.shipOf(0, 0), line[3]);
            due("the tape stays", x.end(20), true);
            due("the fault stays", x.fault(0), 1);
            x.text(9);
            x.hours(20);
            due("goes on alike", x.look(6), later);
            due("goes on alike", x.look(9), laterState);
        }
    }

    private static void tellFault(LetHorizon x) {
        x.end(0);
        tell(x, 0, "no");
    }

    private static void looks() {
        promise = 36;
        LetHorizon x = new LetHorizon();
        due("another what", x.look(15), -100000);
        due("another what", x.look(-1), -100000);
        x.sea(5);
        x.ship(0, 0);
        x.ship(0, 0);
        x.pier(0, 0);
        x.set(0, 0, 8);
        x.set(1, 0, 12);
        tell(x, 0, "wear 99 when column=4;wear 0;");
        tell(x, 1, "at 0 lift 1;at 9 lift 1;at 9 drop 1;");
        tell(x, 2, times("pier 0 wants 11 from 0 to 1 pays 6;", 4));
        x.sunset(0, 0);
        x.hours(1);
        int[] seen = {5, 2, 1, 1, 8, 12, -5 + 24, 1, 5 + 4 + 1, 1013904223, 2, 3, 4, 1, 1};
        for (int what = 0; what < seen.length; what++) due("look(" + what + ")", x.look(what), seen[what]);
    }

    public static void main(String[] args) {
        newObject();
        state();
        sea();
        ships();
        piers();
        setting();
        raising();
        lifting();
        mending();
        hoursRefused();
        hourRoster();
        hourShips();
        hourWants();
        hourWear();
        hourGusts();
        tape();
        texts();
        lawFaults();
        longLaws();
        conditions();
        rowFaults();
        laws();
        suns();
        costs();
        books();
        goes();
        meets();
        smooth();
        folds();
        sunsets();
        lifted();
        over();
        coils();
        moors();
        fees();
        games();
        undoing();
        images();
        looks();
        System.out.println(made + " answers looked at, " + wrong + " not as due");
        if (wrong != 0) System.exit(1);
    }
}
