/** A line of heights over columns of sea that is let out on Sundays; the document's promises 1 to 36. */
public final class LetHorizon {
    public static final int NONE = -1;

    private static final int LEAST_COLUMNS = 3;
    private static final int MOST_COLUMNS = 14;
    private static final int FIRST_COLUMNS = 10;
    private static final int FIRST_HEIGHT = 10;
    private static final int TOP = 40;
    private static final int MOST_WORN = 99;
    private static final int MOST_SHIPS = 8;
    private static final int MOST_PIERS = 6;
    private static final int MOST_EYE = 20;
    private static final int MOST_STEEP = 9;
    private static final int FIRST_STEEP = 3;
    private static final int MOST_GUSTS = 1000;
    private static final int MOST_SUNSETS = 8;
    private static final int LAST_HOUR = 9999;
    private static final int DAY = 24;
    private static final int MOST_LIFT = 20;
    private static final int MOST_BYTES = 400;
    private static final int MOST_LINES = 16;
    private static final int MOST_WANTS = 12;
    private static final int MOST_SUM = 9999;

    private final Told told = new Told();
    private final Line line = new Line();
    private final Book book = new Book();
    private final Told imageTold = new Told();
    private final Line imageLine = new Line();
    private final Book imageBook = new Book();
    private boolean imageTaken;
    private final Past past = new Past();
    private final Tokens tokens = new Tokens();
    private final Reader reader = new Reader(tokens, told);
    private final Asker asker = new Asker(told);
    private final Works works = new Works(told, asker, book);
    private final Line spare = new Line();
    private final Works thinking = new Works(told, asker, null);
    private final Thought thought = new Thought(told, line, asker, spare);

    public LetHorizon() {
        told.begin(FIRST_COLUMNS);
        line.begin();
    }

    public int state(int v) {
        int was = line.draws;
        line.draws = v;
        past.forget();
        return was;
    }

    public boolean sea(int w) {
        if (!within(w, LEAST_COLUMNS, MOST_COLUMNS)) {
            return false;
        }
        told.begin(w);
        line.begin();
        past.forget();
        return true;
    }

    public int ship(int at, int draught) {
        int s = told.ships;
        if (!told.isColumn(at) || !within(draught, 0, TOP) || s >= MOST_SHIPS) {
            return NONE;
        }
        told.draught[s] = draught;
        line.at[s] = at;
        line.scraped[s] = 0;
        told.ships = s + 1;
        past.forget();
        return s;
    }

    public int pier(int at, int eye) {
        int p = told.piers;
        if (!told.isColumn(at) || !within(eye, 0, MOST_EYE) || p >= MOST_PIERS) {
            return NONE;
        }
        told.pierAt[p] = at;
        told.pierEye[p] = eye;
        told.piers = p + 1;
        past.forget();
        return p;
    }

    public boolean set(int what, int who, int v) {
        boolean can = what < 2 ? changeRule(what, v) : changeOne(what, who, v);
        if (can) {
            past.forget();
        }
        return can;
    }

    private boolean changeRule(int what, int v) {
        if (what == 0 && within(v, 1, MOST_STEEP)) {
            told.steep = v;
            return true;
        }
        if (what == 1 && within(v, 0, MOST_GUSTS)) {
            told.gusts = v;
            return true;
        }
        return false;
    }

    private boolean changeOne(int what, int who, int v) {
        if (what == 2 && told.isColumn(who) && within(v, 0, MOST_WORN)) {
            line.worn[who] = v;
            return true;
        }
        if (what == 3 && told.isShip(who) && told.isColumn(v)) {
            line.at[who] = v;
            return true;
        }
        if (what == 4 && told.isPier(who) && told.isColumn(v)) {
            told.pierAt[who] = v;
            return true;
        }
        return false;
    }

    public int raise(int column, int height) {
        if (!told.isColumn(column) || !within(height, 0, TOP)) {
            return NONE;
        }
        past.keep(line);
        works.setColumn(line, column, height);
        return line.height[column];
    }

    public int lift(int n) {
        if (n == 0 || !within(n, -MOST_LIFT, MOST_LIFT)) {
            return NONE;
        }
        past.keep(line);
        return works.moveAll(line, n);
    }

    public int mend(int column) {
        if (!told.isColumn(column)) {
            return NONE;
        }
        past.keep(line);
        return works.mendColumn(line, column);
    }

    public int hours(int n) {
        if (!within(n, 1, 60) || line.hour + n > LAST_HOUR) {
            return NONE;
        }
        works.beginCounts();
        for (int i = 0; i < n; i++) {
            past.keep(line);
            works.passHour(line);
        }
        return works.paid;
    }

    public int feed(int a, int b, int c, int d, int e) {
        if (tokens.length + 20 > MOST_BYTES) {
            return NONE;
        }
        tokens.append(a);
        tokens.append(b);
        tokens.append(c);
        tokens.append(d);
        tokens.append(e);
        return tokens.length;
    }

    public boolean end(int n) {
        if (!within(n, 0, tokens.length)) {
            return false;
        }
        tokens.length = n;
        return true;
    }

    public int text(int k) {
        tokens.cut();
        tokens.length = 0;
        switch (k) {
            case 0: return reader.readLaw();
            case 1: return newRoster();
            case 2: return reader.readWants();
            default: return NONE;
        }
    }

    private int newRoster() {
        int lines = reader.readRoster();
        if (lines != NONE) {
            past.forget();
        }
        return lines;
    }

    public int fault(int what) {
        if (what == 0) {
            return tokens.fault;
        }
        return what == 1 ? tokens.faultPlace : NONE;
    }

    public int of(int column, int what) {
        if (!told.isColumn(column)) {
            return NONE - 1;
        }
        switch (what) {
            case 0: return line.height[column];
            case 1: return line.worn[column];
            case 2: return asker.wear(line, column);
            case 3: return asker.slide(line, column);
            case 4: return asker.dusk(line, column);
            case 5: return asker.leans(line, column);
            default: return NONE - 1;
        }
    }

    public int sun(int column, int hour) {
        if (!told.isColumn(column) || !within(hour, 0, DAY - 1)) {
            return NONE;
        }
        return asker.sunAt(line, column, hour);
    }

    public int costs(int column, int height) {
        if (!told.isColumn(column) || !within(height, 0, TOP)) {
            return NONE;
        }
        return asker.cost(line, column, height);
    }

    public int shipOf(int ship, int what) {
        if (!told.isShip(ship)) {
            return NONE;
        }
        switch (what) {
            case 0: return line.at[ship];
            case 1: return told.draught[ship];
            case 2: return line.scraped[ship];
            default: return NONE;
        }
    }

    public int pierOf(int pier, int what) {
        if (!told.isPier(pier)) {
            return NONE;
        }
        switch (what) {
            case 0: return told.pierAt[pier];
            case 1: return told.pierEye[pier];
            case 2: return thought.sees(pier);
            default: return NONE;
        }
    }

    public int book(int i, int what) {
        if (!within(i, 0, line.bookLines - 1) || !within(what, 0, Book.CELLS - 1)) {
            return NONE;
        }
        return book.cell(i, what);
    }

    public int goes(int n, int what) {
        if (!within(n, 1, 99) || !within(what, 0, 4)) {
            return NONE - 99999;
        }
        spare.copy(line);
        thinking.beginCounts();
        for (int i = 0; i < n; i++) {
            thinking.passHour(spare);
        }
        switch (what) {
            case 0: return spare.coin;
            case 1: return thought.allScraped(spare);
            case 2: return spare.breaks;
            case 3: return thinking.firstScraped;
            default: return thinking.firstBroken;
        }
    }

    public int meets(int hour, int what) {
        if (!within(hour, 0, DAY - 1) || !within(what, 0, 3)) {
            return NONE;
        }
        return thought.meetable(hour, what);
    }

    public int smooth(int what) {
        if (what != 0 && !told.isColumn(numbered(what))) {
            return NONE;
        }
        return thought.smoothed(what == 0 ? NONE : numbered(what));
    }

    public int folds() {
        return thought.foldSet();
    }

    public int sunset(int column, int hour) {
        if (column == NONE) {
            told.sunsets = 0;
            return 0;
        }
        int i = told.sunsets;
        if (!told.isColumn(column) || !within(hour, 0, DAY - 1) || i >= MOST_SUNSETS) {
            return NONE;
        }
        told.sunsetColumn[i] = column;
        told.sunsetHour[i] = hour;
        told.sunsets = i + 1;
        return told.sunsets;
    }

    public int lifted(int what) {
        if (!within(what, 0, 2)) {
            return NONE - 99;
        }
        return thought.lifts(what);
    }

    public int over(int columns) {
        if ((columns & ~told.allColumns()) != 0) {
            return NONE;
        }
        return thought.seers(columns);
    }

    public int watch(int what) {
        if (!within(what, 0, 1)) {
            return NONE;
        }
        int watchers = thought.fewestSeers();
        return what == 0 && watchers != NONE ? Integer.bitCount(watchers) : watchers;
    }

    public int coils(int l, int what) {
        if (!within(l, 1, 200) || (what != 0 && numbered(what) < 0)) {
            return NONE;
        }
        return thought.coiled(l, what == 0 ? NONE : numbered(what));
    }

    public int moors(int what) {
        if (what != 0 && !told.isShip(numbered(what))) {
            return NONE;
        }
        return thought.moored(what == 0 ? NONE : numbered(what));
    }

    public int fee(int c, int p) {
        if (!within(c, 0, MOST_SUM) || !within(p, 0, 999)) {
            return NONE;
        }
        int come = 1000 - p;
        return come < 1 ? NONE : (c * 1000 + come - 1) / come;
    }

    public int part(int c, int pier) {
        if (!within(c, 0, MOST_SUM) || !told.isPier(pier)) {
            return NONE;
        }
        return thought.shareOf(c, pier);
    }

    public int game(int what) {
        if (!within(what, 0, 1)) {
            return NONE;
        }
        return thought.goodMove(what);
    }

    public boolean undo() {
        return past.goBack(line);
    }

    public boolean image(boolean taken) {
        if (taken) {
            imageTold.copy(told);
            imageLine.copy(line);
            imageBook.copy(book);
            imageTaken = true;
        } else if (imageTaken) {
            told.copy(imageTold);
            line.copy(imageLine);
            book.copy(imageBook);
            past.forget();
        }
        return imageTaken;
    }

    public int look(int what) {
        switch (what) {
            case 0: return told.w;
            case 1: return told.ships;
            case 2: return told.piers;
            case 3: return line.hour;
            case 4: return told.steep;
            case 5: return told.gusts;
            case 6: return line.coin;
            case 7: return line.breaks;
            case 8: return line.bookLines;
            case 9: return line.draws;
            case 10: return told.law.lines;
            case 11: return told.roster.lines;
            case 12: return told.wants.lines;
            case 13: return told.sunsets;
            case 14: return past.count;
            default: return NONE - 99999;
        }
    }

    private static boolean within(int v, int least, int most) {
        return v >= least && v <= most;
    }

    private static int hold(int v, int least, int most) {
        if (v < least) {
            return least;
        }
        return v > most ? most : v;
    }

    /** Which one a what of 10 and more names; NONE below that, so that nothing wraps. */
    private static int numbered(int what) {
        return what < 10 ? NONE : what - 10;
    }

    /** What an hour can change, and so what is kept for undoing. */
    private static final class Line {
        private final int[] height = new int[MOST_COLUMNS];
        private final int[] worn = new int[MOST_COLUMNS];
        private final int[] at = new int[MOST_SHIPS];
        private final int[] scraped = new int[MOST_SHIPS];
        private int coin;
        private int breaks;
        private int hour;
        private int draws;
        // Lines of the book are only added, so their number is enough to go back.
        private int bookLines;

        /** As at first, but for the state of draws, which a new sea leaves. */
        private void begin() {
            for (int c = 0; c < MOST_COLUMNS; c++) {
                height[c] = FIRST_HEIGHT;
                worn[c] = 0;
            }
            coin = 0;
            breaks = 0;
            hour = 0;
            bookLines = 0;
        }

        private void copy(Line from) {
            System.arraycopy(from.height, 0, height, 0, MOST_COLUMNS);
            System.arraycopy(from.worn, 0, worn, 0, MOST_COLUMNS);
            System.arraycopy(from.at, 0, at, 0, MOST_SHIPS);
            System.arraycopy(from.scraped, 0, scraped, 0, MOST_SHIPS);
            coin = from.coin;
            breaks = from.breaks;
            hour = from.hour;
            draws = from.draws;
            bookLines = from.bookLines;
        }

        private int draw(int m) {
            draws = 1664525 * draws + 1013904223;
            return m < 1 ? 0 : (draws >>> 8) % m;
        }
    }

    /** What is told and no hour changes. */
    private static final class Told {
        private int w = FIRST_COLUMNS;
        private int steep;
        private int gusts;
        private int ships;
        private final int[] draught = new int[MOST_SHIPS];
        private int piers;
        private final int[] pierAt = new int[MOST_PIERS];
        private final int[] pierEye = new int[MOST_PIERS];
        private int sunsets;
        private final int[] sunsetColumn = new int[MOST_SUNSETS];
        private final int[] sunsetHour = new int[MOST_SUNSETS];
        private final Law law = new Law();
        private final Rows roster = new Rows();
        private final Rows wants = new Rows();

        private void begin(int columns) {
            w = columns;
            steep = FIRST_STEEP;
            gusts = 0;
            ships = 0;
            piers = 0;
            sunsets = 0;
            law.empty();
            roster.lines = 0;
            wants.lines = 0;
        }

        private void copy(Told from) {
            w = from.w;
            steep = from.steep;
            gusts = from.gusts;
            ships = from.ships;
            System.arraycopy(from.draught, 0, draught, 0, MOST_SHIPS);
            piers = from.piers;
            System.arraycopy(from.pierAt, 0, pierAt, 0, MOST_PIERS);
            System.arraycopy(from.pierEye, 0, pierEye, 0, MOST_PIERS);
            sunsets = from.sunsets;
            System.arraycopy(from.sunsetColumn, 0, sunsetColumn, 0, MOST_SUNSETS);
            System.arraycopy(from.sunsetHour, 0, sunsetHour, 0, MOST_SUNSETS);
            law.copy(from.law);
            roster.copy(from.roster);
            wants.copy(from.wants);
        }

        private boolean isColumn(int c) {
            return c >= 0 && c < w;
        }

        private boolean isShip(int s) {
            return s >= 0 && s < ships;
        }

        private boolean isPier(int p) {
            return p >= 0 && p < piers;
        }

        /** A column that was kept with a ship, a pier or a sunset; it is looked at again before it is used. */
        private int kept(int c) {
            return isColumn(c) ? c : 0;
        }

        private int allColumns() {
            return (1 << w) - 1;
        }

        private boolean isWanted(int want, int hourOfDay) {
            return within(hourOfDay, wants.cell(want, Rows.FROM), wants.cell(want, Rows.UNTIL));
        }

        /** The column of the pier that a line of the wants speaks of. */
        private int wantedColumn(int want) {
            int p = wants.cell(want, Rows.PIER);
            return isPier(p) ? kept(pierAt[p]) : 0;
        }
    }

    /** The law, each line as two runs of postfix steps: what it tells and when. */
    private static final class Law {
        // Words and comparisons stand in the order of their tokens.
        private static final int WEAR = 0;
        private static final int SLIDE = 1;
        private static final int COST = 2;
        private static final int SUN = 3;
        // A step's kind: the first two put a value, the next two change one, the others join two.
        private static final int NUMBER = 0;
        private static final int NAME = 1;
        private static final int DIVIDE = 2;
        private static final int NOT = 3;
        private static final int ADD = 4;
        private static final int TAKE = 5;
        private static final int TIMES = 6;
        private static final int BELOW = 7;
        private static final int ALIKE = 8;
        private static final int ABOVE = 9;
        private static final int AND = 10;
        private static final int OR = 11;
        private static final int KINDS = 16;

        private int lines;
        private int steps;
        private final int[] word = new int[MOST_LINES];
        private final int[] start = new int[MOST_LINES];
        private final int[] middle = new int[MOST_LINES];
        private final int[] stop = new int[MOST_LINES];
        // Each token makes one step at most, so there are never more than bytes.
        private final int[] step = new int[MOST_BYTES];

        private void empty() {
            lines = 0;
            steps = 0;
        }

        private void put(int kind, int value) {
            if (steps < MOST_BYTES) {
                step[steps] = value * KINDS + kind;
                steps++;
            }
        }

        private void putIfAny(int kind) {
            if (kind != NONE) {
                put(kind, 0);
            }
        }

        private void addLine(int w, int from, int when) {
            if (lines < MOST_LINES) {
                word[lines] = w;
                start[lines] = from;
                middle[lines] = when;
                stop[lines] = steps;
                lines++;
            }
        }

        private void copy(Law from) {
            lines = from.lines;
            steps = from.steps;
            System.arraycopy(from.word, 0, word, 0, MOST_LINES);
            System.arraycopy(from.start, 0, start, 0, MOST_LINES);
            System.arraycopy(from.middle, 0, middle, 0, MOST_LINES);
            System.arraycopy(from.stop, 0, stop, 0, MOST_LINES);
            System.arraycopy(from.step, 0, step, 0, MOST_BYTES);
        }
    }

    /** The lines of a roster or of wants, as cells. */
    private static final class Rows {
        private static final int CELLS = 5;
        private static final int AT = 0;
        private static final int TASK = 1;
        private static final int WHICH = 2;
        private static final int GOAL = 3;
        // Tasks stand in the order of their keywords.
        private static final int SET = 0;
        private static final int LIFT = 1;
        private static final int DROP = 2;
        private static final int MEND = 3;
        private static final int PIER = 0;
        private static final int HEIGHT = 1;
        private static final int FROM = 2;
        private static final int UNTIL = 3;
        private static final int PAYS = 4;

        private int lines;
        private final int[] cells = new int[MOST_LINES * CELLS];

        private int cell(int row, int k) {
            int i = row * CELLS + k;
            return within(i, 0, cells.length - 1) ? cells[i] : 0;
        }

        /** Puts a cell of the line that is being read. */
        private void put(int k, int v) {
            int i = lines * CELLS + k;
            if (within(i, 0, cells.length - 1)) {
                cells[i] = v;
            }
        }

        private void copy(Rows from) {
            lines = from.lines;
            System.arraycopy(from.cells, 0, cells, 0, cells.length);
        }
    }

    /** The book; how many of its lines are written is told by the line of heights. */
    private static final class Book {
        private static final int MOST = 150;
        private static final int CELLS = 4;
        private static final int WAS_SET = 0;
        private static final int MENDED = 1;
        private static final int SLID = 2;
        private static final int SCRAPED = 3;
        private static final int PAID = 4;
        private static final int BROKEN = 5;
        private static final int GUST = 6;

        private final int[] cells = new int[MOST * CELLS];

        private int cell(int row, int k) {
            int i = row * CELLS + k;
            return within(i, 0, cells.length - 1) ? cells[i] : NONE;
        }

        private void write(Line l, int what, int which, int much) {
            if (!within(l.bookLines, 0, MOST - 1)) {
                return;
            }
            int i = l.bookLines * CELLS;
            cells[i] = l.hour;
            cells[i + 1] = what;
            cells[i + 2] = which;
            cells[i + 3] = much;
            l.bookLines++;
        }

        private void copy(Book from) {
            System.arraycopy(from.cells, 0, cells, 0, cells.length);
        }
    }

    /** The latest lines of heights, the oldest first. */
    private static final class Past {
        private static final int KEPT = 6;

        private final Line[] kept = new Line[KEPT];
        private int count;

        private Past() {
            for (int i = 0; i < KEPT; i++) {
                kept[i] = new Line();
            }
        }

        private void keep(Line now) {
            if (count >= KEPT) {
                dropOldest();
            }
            Line slot = kept[count];
            if (slot != null) {
                slot.copy(now);
                count++;
            }
        }

        private void dropOldest() {
            Line oldest = kept[0];
            for (int i = 1; i < KEPT; i++) {
                kept[i - 1] = kept[i];
            }
            kept[KEPT - 1] = oldest;
            count = KEPT - 1;
        }

        private boolean goBack(Line now) {
            Line latest = count < 1 ? null : kept[count - 1];
            if (latest == null) {
                return false;
            }
            now.copy(latest);
            count--;
            return true;
        }

        private void forget() {
            count = 0;
        }
    }

    /** The tape, cut into tokens, and the first fault that was met on it. */
    private static final class Tokens {
        private static final int END = 0;
        private static final int NUMBER = 1;
        private static final int STRANGE = 2;
        // A sign is its own byte; keywords stand above all bytes, in the order in which they are listed.
        private static final String SIGNS = ";+-*/()<=>";
        private static final String KEYWORDS =
            "wear slide cost sun column height worn hour day leans by when or and not at set lift drop mend to pier wants from pays ";
        private static final int WEAR = 256;
        private static final int SUN = WEAR + 3;
        private static final int COLUMN = WEAR + 4;
        private static final int BY = WEAR + 10;
        private static final int WHEN = WEAR + 11;
        private static final int OR = WEAR + 12;
        private static final int AND = WEAR + 13;
        private static final int NOT = WEAR + 14;
        private static final int AT = WEAR + 15;
        private static final int SET = WEAR + 16;
        private static final int TO = WEAR + 20;
        private static final int PIER = WEAR + 21;
        private static final int WANTS = WEAR + 22;
        private static final int FROM = WEAR + 23;
        private static final int PAYS = WEAR + 24;

        private final byte[] tape = new byte[MOST_BYTES];
        private int length;
        // One more than bytes, for the end.
        private final int[] kind = new int[MOST_BYTES + 1];
        private final int[] place = new int[MOST_BYTES + 1];
        private final int[] value = new int[MOST_BYTES + 1];
        private int count;
        private int at;
        private int fault;
        private int faultPlace = NONE;

        private void append(int number) {
            for (int shift = 24; shift >= 0 && length < MOST_BYTES; shift -= 8) {
                tape[length] = (byte) (number >> shift);
                length++;
            }
        }

        private void cut() {
            fault = 0;
            faultPlace = NONE;
            count = 0;
            at = 0;
            int from = 0;
            for (int i = 0; i < MOST_BYTES && from < length; i++) {
                from = isBlank(tape[from]) ? from + 1 : cutOne(from);
            }
            add(END, length, 0);
        }

        /** Cuts the token that begins there; where it ends. */
        private int cutOne(int from) {
            int to = from + 1;
            if (isLetter(tape[from])) {
                while (to < length && isLetter(tape[to])) {
                    to++;
                }
                add(keyword(from, to), from, 0);
            } else if (isDigit(tape[from])) {
                while (to < length && isDigit(tape[to])) {
                    to++;
                }
                add(to - from > 4 ? STRANGE : NUMBER, from, number(from, to));
            } else {
                char sign = (char) (tape[from] & 255);
                add(SIGNS.indexOf(sign) < 0 ? STRANGE : sign, from, 0);
            }
            return to;
        }

        private void add(int k, int p, int v) {
            if (count < kind.length) {
                kind[count] = k;
                place[count] = p;
                value[count] = v;
                count++;
            }
        }

        private int keyword(int from, int to) {
            int word = WEAR;
            int alike = from;
            for (int i = 0; i < KEYWORDS.length(); i++) {
                char sign = KEYWORDS.charAt(i);
                if (sign != ' ') {
                    alike = alike >= from && alike < to && tape[alike] == sign ? alike + 1 : NONE;
                } else if (alike == to) {
                    return word;
                } else {
                    word++;
                    alike = from;
                }
            }
            return STRANGE;
        }

        private int number(int from, int to) {
            int number = 0;
            for (int i = from; i < to && i < from + 4; i++) {
                number = number * 10 + tape[i] - '0';
            }
            return number;
        }

        private static boolean isBlank(byte b) {
            return b == ' ' || b == '\n';
        }

        private static boolean isLetter(byte b) {
            return (b >= 'a' && b <= 'z') || (b >= 'A' && b <= 'Z');
        }

        private static boolean isDigit(byte b) {
            return b >= '0' && b <= '9';
        }

        private int now() {
            return at < count ? kind[at] : END;
        }

        private int amount() {
            return at < count ? value[at] : 0;
        }

        private void skip() {
            at++;
        }

        private boolean take(int k) {
            if (now() != k) {
                return fail(1);
            }
            at++;
            return true;
        }

        private boolean fail(int which) {
            fault = which;
            faultPlace = at < count ? place[at] : length;
            return false;
        }
    }

    /** Reads the tape as one of the three texts; drafts keep a text as it was if there is a fault. */
    private static final class Reader {
        private static final int DEEPEST = 8;

        private final Tokens tokens;
        private final Told told;
        private final Law law = new Law();
        private final Rows rows = new Rows();

        private Reader(Tokens tokens, Told told) {
            this.tokens = tokens;
            this.told = told;
        }

        private int readLaw() {
            law.empty();
            for (int i = 0; i <= MOST_LINES && tokens.now() != Tokens.END; i++) {
                if (!readLawLine()) {
                    return NONE;
                }
            }
            told.law.copy(law);
            return law.lines;
        }

        private int readRoster() {
            if (!readRows(Tokens.AT, MOST_LINES)) {
                return NONE;
            }
            told.roster.copy(rows);
            return rows.lines;
        }

        private int readWants() {
            if (!readRows(Tokens.PIER, MOST_WANTS)) {
                return NONE;
            }
            told.wants.copy(rows);
            return rows.lines;
        }

        private boolean readLawLine() {
            int word = tokens.now();
            if (!within(word, Tokens.WEAR, Tokens.SUN)) {
                return tokens.fail(1);
            }
            if (law.lines >= MOST_LINES) {
                return tokens.fail(3);
            }
            tokens.skip();
            int from = law.steps;
            if (!readSum()) {
                return false;
            }
            int when = law.steps;
            if (tokens.now() == Tokens.WHEN) {
                tokens.skip();
                if (!readCondition(0)) {
                    return false;
                }
            }
            law.addLine(word - Tokens.WEAR, from, when);
            return tokens.take(';');
        }

        /** An or waits until all that is joined by and behind it is read. */
        private boolean readCondition(int open) {
            boolean waits = false;
            boolean fine = readOne(open);
            for (int i = 0; fine && i < MOST_BYTES; i++) {
                int join = tokens.now();
                if (join != Tokens.OR && join != Tokens.AND) {
                    break;
                }
                tokens.skip();
                if (join == Tokens.OR && waits) {
                    law.put(Law.OR, 0);
                }
                waits |= join == Tokens.OR;
                fine = readOne(open);
                if (join == Tokens.AND) {
                    law.put(Law.AND, 0);
                }
            }
            if (waits) {
                law.put(Law.OR, 0);
            }
            return fine;
        }

        private boolean readOne(int open) {
            int first = tokens.now();
            if (first == Tokens.NOT || first == '(') {
                if (open >= DEEPEST) {
                    return tokens.fail(3);
                }
                tokens.skip();
                if (first == '(') {
                    return readCondition(open + 1) && tokens.take(')');
                }
                boolean fine = readOne(open + 1);
                law.put(Law.NOT, 0);
                return fine;
            }
            if (!readSum()) {
                return false;
            }
            int sign = tokens.now();
            if (!within(sign, '<', '>')) {
                return tokens.fail(1);
            }
            tokens.skip();
            if (!readSum()) {
                return false;
            }
            law.put(Law.BELOW + sign - '<', 0);
            return true;
        }

        /** A plus or minus waits until the product behind it is read. */
        private boolean readSum() {
            int waits = NONE;
            boolean fine = readOperand();
            for (int i = 0; fine && i < MOST_BYTES; i++) {
                int sign = tokens.now();
                if (sign == '*') {
                    tokens.skip();
                    fine = readOperand();
                    law.put(Law.TIMES, 0);
                } else if (sign == '/') {
                    tokens.skip();
                    fine = readDivisor();
                } else if (sign == '+' || sign == '-') {
                    tokens.skip();
                    law.putIfAny(waits);
                    waits = sign == '+' ? Law.ADD : Law.TAKE;
                    fine = readOperand();
                } else {
                    break;
                }
            }
            law.putIfAny(waits);
            return fine;
        }

        private boolean readOperand() {
            int kind = tokens.now();
            if (kind == Tokens.NUMBER) {
                law.put(Law.NUMBER, tokens.amount());
            } else if (within(kind, Tokens.COLUMN, Tokens.BY)) {
                law.put(Law.NAME, kind - Tokens.COLUMN);
            } else {
                return tokens.fail(1);
            }
            tokens.skip();
            return true;
        }

        private boolean readDivisor() {
            if (tokens.now() != Tokens.NUMBER) {
                return tokens.fail(1);
            }
            if (tokens.amount() < 1) {
                return tokens.fail(2);
            }
            law.put(Law.DIVIDE, tokens.amount());
            tokens.skip();
            return true;
        }

        private boolean readRows(int word, int most) {
            rows.lines = 0;
            for (int i = 0; i <= most && tokens.now() != Tokens.END; i++) {
                if (tokens.now() == word && rows.lines >= most) {
                    return tokens.fail(3);
                }
                if (!tokens.take(word)) {
                    return false;
                }
                if (!(word == Tokens.AT ? readTask() : readWant()) || !tokens.take(';')) {
                    return false;
                }
                rows.lines++;
            }
            return true;
        }

        private boolean readTask() {
            if (!readCell(Rows.AT, 0, 999)) {
                return false;
            }
            int task = tokens.now() - Tokens.SET;
            if (!within(task, Rows.SET, Rows.MEND)) {
                return tokens.fail(1);
            }
            tokens.skip();
            rows.put(Rows.TASK, task);
            if (task == Rows.LIFT || task == Rows.DROP) {
                return readCell(Rows.WHICH, 1, MOST_LIFT);
            }
            if (!readCell(Rows.WHICH, 0, told.w - 1)) {
                return false;
            }
            return task == Rows.MEND || (tokens.take(Tokens.TO) && readCell(Rows.GOAL, 0, TOP));
        }

        private boolean readWant() {
            return readCell(Rows.PIER, 0, told.piers - 1)
                && tokens.take(Tokens.WANTS) && readCell(Rows.HEIGHT, 0, TOP)
                && tokens.take(Tokens.FROM) && readCell(Rows.FROM, 0, DAY - 1)
                && tokens.take(Tokens.TO)
                && readCell(Rows.UNTIL, rows.cell(rows.lines, Rows.FROM), DAY - 1)
                && tokens.take(Tokens.PAYS) && readCell(Rows.PAYS, 0, 99);
        }

        private boolean readCell(int k, int least, int most) {
            if (tokens.now() != Tokens.NUMBER) {
                return tokens.fail(1);
            }
            if (!within(tokens.amount(), least, most)) {
                return tokens.fail(2);
            }
            rows.put(k, tokens.amount());
            tokens.skip();
            return true;
        }
    }

    /** Asks the law about a column of a line of heights. */
    private static final class Asker {
        // Names stand in the order of their keywords.
        private static final int COLUMN = 0;
        private static final int HEIGHT = 1;
        private static final int WORN = 2;
        private static final int HOUR = 3;
        private static final int WHICH_DAY = 4;
        private static final int LEANS = 5;
        private static final int BY = 6;
        private static final int NAMES = 7;
        // Two for each of nine conditions, one in the other, and four for a sum are the most that wait at once.
        private static final int DEEPEST = 32;

        private final Told told;
        private final int[] named = new int[NAMES];
        private final int[] waiting = new int[DEEPEST];

        private Asker(Told told) {
            this.told = told;
        }

        private int wear(Line l, int c) {
            name(l, c);
            return hold(tell(Law.WEAR), 0, MOST_WORN);
        }

        private int slide(Line l, int c) {
            name(l, c);
            return hold(tell(Law.SLIDE), 0, TOP);
        }

        private int cost(Line l, int c, int goal) {
            name(l, c);
            named[BY] = goal > l.height[c] ? goal - l.height[c] : 0;
            return hold(tell(Law.COST), 0, 999);
        }

        private int sunAt(Line l, int c, int hour) {
            name(l, c);
            named[HOUR] = hour;
            return hold(tell(Law.SUN), 0, 99);
        }

        private int dusk(Line l, int c) {
            name(l, c);
            for (int hour = 0; hour < DAY; hour++) {
                named[HOUR] = hour;
                if (hold(tell(Law.SUN), 0, 99) <= l.height[c]) {
                    return hour;
                }
            }
            return NONE;
        }

        private int leans(Line l, int c) {
            int here = l.height[c];
            int below = c > 0 ? l.height[c - 1] : here;
            int above = c + 1 < told.w ? l.height[c + 1] : here;
            int low = below < above ? below : above;
            int high = below < above ? above : below;
            return here - low > high - here ? here - low : high - here;
        }

        private void name(Line l, int c) {
            named[COLUMN] = c;
            named[HEIGHT] = l.height[c];
            named[WORN] = l.worn[c];
            named[HOUR] = l.hour % DAY;
            named[WHICH_DAY] = l.hour / DAY;
            named[LEANS] = leans(l, c);
            named[BY] = 0;
        }

        private int tell(int word) {
            Law law = told.law;
            for (int i = 0; i < law.lines; i++) {
                if (law.word[i] == word
                        && (law.middle[i] == law.stop[i] || work(law.middle[i], law.stop[i]) != 0)) {
                    return work(law.start[i], law.middle[i]);
                }
            }
            return unlessTold(word);
        }

        private int unlessTold(int word) {
            switch (word) {
                case Law.WEAR: return named[LEANS];
                case Law.SLIDE: return 2;
                case Law.COST: return named[BY];
                default: return 60 - 3 * named[HOUR];
            }
        }

        /** The value at hand stays aside; those that it will be joined with wait in a row. */
        private int work(int from, int to) {
            int[] steps = told.law.step;
            int waits = 0;
            int now = 0;
            for (int i = from; i < to && i < steps.length; i++) {
                int kind = steps[i] % Law.KINDS;
                int amount = steps[i] / Law.KINDS;
                int other = 0;
                if (kind < Law.DIVIDE && waits < DEEPEST) {
                    waiting[waits] = now;
                    waits++;
                } else if (kind > Law.NOT && waits > 0) {
                    waits--;
                    other = waiting[waits];
                }
                switch (kind) {
                    case Law.NUMBER: now = amount; break;
                    case Law.NAME: now = amount < NAMES ? named[amount] : 0; break;
                    case Law.DIVIDE: now = amount > 0 ? now / amount : 0; break;
                    case Law.NOT: now = 1 - now; break;
                    case Law.ADD: now = other + now; break;
                    case Law.TAKE: now = other - now; break;
                    case Law.TIMES: now = other * now; break;
                    case Law.BELOW: now = other < now ? 1 : 0; break;
                    case Law.ALIKE: now = other == now ? 1 : 0; break;
                    case Law.ABOVE: now = other > now ? 1 : 0; break;
                    case Law.AND: now = other & now; break;
                    default: now = other | now; break;
                }
            }
            return now;
        }
    }

    /** What is done to a line of heights, by hand or by hours; in thought, without a book, no gust comes. */
    private static final class Works {
        private final Told told;
        private final Asker asker;
        private final Book book;
        private int paid;
        private int firstScraped;
        private int firstBroken;

        private Works(Told told, Asker asker, Book book) {
            this.told = told;
            this.asker = asker;
            this.book = book;
        }

        private void beginCounts() {
            paid = 0;
            firstScraped = NONE;
            firstBroken = NONE;
        }

        private void note(Line l, int what, int which, int much) {
            if (book != null) {
                book.write(l, what, which, much);
            }
        }

        private int setColumn(Line l, int c, int goal) {
            int cost = asker.cost(l, c, goal);
            l.coin -= cost;
            l.height[c] = Math.min(goal, TOP - l.worn[c] / 4);
            note(l, Book.WAS_SET, c, l.height[c]);
            return cost;
        }

        private int moveAll(Line l, int n) {
            int cost = 0;
            for (int c = 0; c < told.w; c++) {
                cost += setColumn(l, c, hold(l.height[c] + n, 0, TOP));
            }
            return cost;
        }

        private int mendColumn(Line l, int c) {
            int cost = l.worn[c];
            l.worn[c] = 0;
            l.coin -= cost;
            note(l, Book.MENDED, c, cost);
            return cost;
        }

        private void passHour(Line l) {
            for (int i = 0; i < told.roster.lines; i++) {
                if (told.roster.cell(i, Rows.AT) == l.hour) {
                    doTask(l, i);
                }
            }
            slideShips(l);
            scrapeShips(l);
            payWants(l);
            wearColumns(l);
            if (book != null && told.gusts > 0) {
                drawGust(l);
            }
            l.hour++;
        }

        private void doTask(Line l, int i) {
            int task = told.roster.cell(i, Rows.TASK);
            int which = told.roster.cell(i, Rows.WHICH);
            if (task == Rows.LIFT) {
                moveAll(l, which);
            } else if (task == Rows.DROP) {
                moveAll(l, -which);
            } else if (told.isColumn(which) && task == Rows.MEND) {
                mendColumn(l, which);
            } else if (told.isColumn(which)) {
                setColumn(l, which, told.roster.cell(i, Rows.GOAL));
            }
        }

        private void slideShips(Line l) {
            for (int s = 0; s < told.ships; s++) {
                int here = told.kept(l.at[s]);
                int there = lowerBeside(l, here);
                if (l.height[here] - l.height[there] > asker.slide(l, here)) {
                    l.at[s] = there;
                    note(l, Book.SLID, s, there);
                }
            }
        }

        private int lowerBeside(Line l, int c) {
            if (c < 1) {
                return c + 1;
            }
            if (c + 1 >= told.w) {
                return c - 1;
            }
            return l.height[c + 1] < l.height[c - 1] ? c + 1 : c - 1;
        }

        private void scrapeShips(Line l) {
            for (int s = 0; s < told.ships; s++) {
                int lacks = told.draught[s] - l.height[told.kept(l.at[s])];
                if (lacks > 0) {
                    l.scraped[s]++;
                    firstScraped = firstScraped == NONE ? s : firstScraped;
                    note(l, Book.SCRAPED, s, lacks);
                }
            }
        }

        private void payWants(Line l) {
            for (int i = 0; i < told.wants.lines; i++) {
                if (told.isWanted(i, l.hour % DAY)
                        && l.height[told.wantedColumn(i)] == told.wants.cell(i, Rows.HEIGHT)) {
                    int pays = told.wants.cell(i, Rows.PAYS);
                    l.coin += pays;
                    paid++;
                    note(l, Book.PAID, i, pays);
                }
            }
        }

        private void wearColumns(Line l) {
            for (int c = 0; c < told.w; c++) {
                if (l.height[c] > 0) {
                    l.worn[c] = Math.min(MOST_WORN, l.worn[c] + asker.wear(l, c));
                    if (l.worn[c] >= MOST_WORN) {
                        breakColumn(l, c);
                    }
                }
            }
        }

        private void breakColumn(Line l, int c) {
            int ahead = l.height[c];
            l.height[c] = 0;
            l.worn[c] = 0;
            l.breaks++;
            firstBroken = firstBroken == NONE ? c : firstBroken;
            note(l, Book.BROKEN, c, ahead);
        }

        private void drawGust(Line l) {
            if (l.draw(1000) < told.gusts) {
                int c = l.draw(told.w);
                l.height[c] = Math.max(0, l.height[c] - 1);
                note(l, Book.GUST, c, l.height[c]);
            }
        }
    }

    /** What is answered in thought: of all this nothing stays. */
    private static final class Thought {
        private static final int HEIGHTS = TOP + 1;
        private static final int SHIP_SETS = 1 << MOST_SHIPS;
        private static final int WANT_SETS = 1 << MOST_WANTS;
        private static final long NO_WAY = 1L << 62;

        private final Told told;
        private final Line line;
        private final Asker asker;
        private final Line spare;
        private final int[] clash = new int[MOST_WANTS];
        private final int[] pays = new int[MOST_WANTS];
        private final int[][] feet = new int[MOST_COLUMNS][HEIGHTS];
        private final int[][] dusks = new int[MOST_COLUMNS][DAY + 1];
        private final long[] ways = new long[SHIP_SETS];
        private final int[] weight = new int[MOST_PIERS];

        private Thought(Told told, Line line, Asker asker, Line spare) {
            this.told = told;
            this.line = line;
            this.asker = asker;
            this.spare = spare;
        }

        private int allScraped(Line l) {
            int sum = 0;
            for (int s = 0; s < told.ships; s++) {
                sum += l.scraped[s];
            }
            return sum;
        }

        private int meetable(int hour, int what) {
            int wanted = wantedSet(hour);
            if (what >= 2) {
                return firstClash(wanted, what == 2);
            }
            int best = bestMet(clash, pays, told.wants.lines - 1, wanted);
            return what == 0 ? best / WANT_SETS : WANT_SETS - 1 - best % WANT_SETS;
        }

        /** The lines for that hour; besides, what each pays and with which it clashes. */
        private int wantedSet(int hour) {
            int wanted = 0;
            for (int i = 0; i < told.wants.lines; i++) {
                pays[i] = told.wants.cell(i, Rows.PAYS);
                clash[i] = clashesOf(i);
                wanted |= told.isWanted(i, hour) ? 1 << i : 0;
            }
            return wanted;
        }

        /** Couples are enough: a line that is nowhere too steep between any two heights can always be drawn. */
        private int clashesOf(int i) {
            int set = 0;
            for (int j = 0; j < told.wants.lines; j++) {
                int rise = Math.abs(told.wants.cell(i, Rows.HEIGHT) - told.wants.cell(j, Rows.HEIGHT));
                int way = Math.abs(told.wantedColumn(i) - told.wantedColumn(j));
                set |= rise > way * told.steep ? 1 << j : 0;
            }
            return set;
        }

        private int firstClash(int wanted, boolean first) {
            for (int i = 0; i < told.wants.lines; i++) {
                int others = clash[i] & wanted;
                if ((wanted >> i & 1) == 1 && others != 0) {
                    return first ? i : lowest(others);
                }
            }
            return NONE;
        }

        private static int lowest(int set) {
            for (int i = 0; i < MOST_WANTS; i++) {
                if ((set >> i & 1) == 1) {
                    return i;
                }
            }
            return NONE;
        }

        /**
         * The best of the free lines up to this one: the sum, and behind it what the set lacks, so that
         * the greatest number is the greatest sum and then the least set.
         */
        private static int bestMet(int[] clash, int[] pays, int i, int free) {
            if (i < 0 || i >= clash.length) {
                return WANT_SETS - 1;
            }
            int others = free & ~(1 << i);
            if (others == free) {
                return bestMet(clash, pays, i - 1, others);
            }
            int with = bestMet(clash, pays, i - 1, others & ~clash[i]) + pays[i] * WANT_SETS - (1 << i);
            // What pays and clashes with none is in every best set: no need to try without.
            if (pays[i] > 0 && (others & clash[i]) == 0) {
                return with;
            }
            return Math.max(with, bestMet(clash, pays, i - 1, others));
        }

        private int smoothed(int column) {
            for (int c = told.w - 1; c >= 0; c--) {
                for (int h = 0; h <= TOP; h++) {
                    feet[c][h] = Math.abs(h - line.height[c])
                        + (c + 1 < told.w ? feet[c + 1][leastNear(c + 1, h - told.steep, h + told.steep)] : 0);
                }
            }
            int h = leastNear(0, 0, TOP);
            if (column == NONE) {
                return feet[0][h];
            }
            for (int c = 1; c <= column && c < told.w; c++) {
                h = leastNear(c, h - told.steep, h + told.steep);
            }
            return h;
        }

        /** The height within these bounds from which the fewest feet follow; of several the least. */
        private int leastNear(int c, int low, int high) {
            int best = Math.max(0, low);
            for (int h = best + 1; h <= high && h <= TOP; h++) {
                if (feet[c][h] < feet[c][best]) {
                    best = h;
                }
            }
            return best;
        }

        private int foldSet() {
            int set = 0;
            for (int c = 0; c < told.w; c++) {
                if (slidesInto(c - 1, c) && slidesInto(c + 1, c)) {
                    set |= 1 << c;
                }
            }
            return set;
        }

        /** Beyond the rim nothing stands against it. */
        private boolean slidesInto(int from, int c) {
            return !told.isColumn(from)
                || line.height[from] - line.height[c] > asker.slide(line, from);
        }

        private int lifts(int what) {
            int count = 0;
            int least = NONE - 99;
            emptyDusks();
            for (int by = -MOST_LIFT; by <= MOST_LIFT; by++) {
                liftSpare(by);
                if (fitsSunsets()) {
                    least = count == 0 ? by : least;
                    count++;
                    if (what == 2) {
                        countDusks();
                    }
                }
            }
            if (what == 2) {
                return count < 2 ? NONE : bestLook();
            }
            return what == 0 ? count : least;
        }

        private void liftSpare(int by) {
            spare.copy(line);
            for (int c = 0; c < told.w; c++) {
                spare.height[c] = hold(line.height[c] + by, 0, TOP);
            }
        }

        private boolean fitsSunsets() {
            for (int i = 0; i < told.sunsets; i++) {
                if (asker.dusk(spare, told.kept(told.sunsetColumn[i])) != told.sunsetHour[i]) {
                    return false;
                }
            }
            return true;
        }

        private void emptyDusks() {
            for (int c = 0; c < told.w; c++) {
                for (int hour = 0; hour <= DAY; hour++) {
                    dusks[c][hour] = 0;
                }
            }
        }

        private void countDusks() {
            for (int c = 0; c < told.w; c++) {
                dusks[c][duskOr24(spare, c)]++;
            }
        }

        private int duskOr24(Line l, int c) {
            int hour = asker.dusk(l, c);
            return hour == NONE ? DAY : hour;
        }

        private int bestLook() {
            int best = 0;
            for (int c = 1; c < told.w; c++) {
                if (greatestGroup(c) < greatestGroup(best)) {
                    best = c;
                }
            }
            return best;
        }

        private int greatestGroup(int c) {
            int most = 0;
            for (int hour = 0; hour <= DAY; hour++) {
                most = Math.max(most, dusks[c][hour]);
            }
            return most;
        }

        private int sees(int pier) {
            int own = told.kept(told.pierAt[pier]);
            int eye = line.height[own] + told.pierEye[pier];
            int set = 1 << own;
            for (int c = own - 1; c >= 0; c--) {
                set |= 1 << c;
                if (line.height[c] > eye) {
                    break;
                }
            }
            for (int c = own + 1; c < told.w; c++) {
                set |= 1 << c;
                if (line.height[c] > eye) {
                    break;
                }
            }
            return set;
        }

        private int seers(int columns) {
            int set = 0;
            for (int p = 0; p < told.piers; p++) {
                set |= (columns & ~sees(p)) == 0 ? 1 << p : 0;
            }
            return set;
        }

        private int fewestSeers() {
            int best = NONE;
            for (int set = 1; set < 1 << told.piers; set++) {
                boolean fewer = best == NONE || Integer.bitCount(set) < Integer.bitCount(best);
                if (fewer && seenBy(set) == told.allColumns()) {
                    best = set;
                }
            }
            return best;
        }

        private int seenBy(int piers) {
            int seen = 0;
            for (int p = 0; p < told.piers; p++) {
                seen |= (piers >> p & 1) == 1 ? sees(p) : 0;
            }
            return seen;
        }

        /** Part by part as long as can be: no way has fewer parts, and none is longer at first. */
        private int coiled(int l, int which) {
            int part = 0;
            int length = 0;
            int sum = 0;
            int asked = NONE;
            for (int c = 0; c < told.w; c++) {
                if (line.height[c] > l) {
                    return NONE;
                }
                if (sum + line.height[c] > l) {
                    asked = part == which ? length : asked;
                    part++;
                    length = 0;
                    sum = 0;
                }
                length++;
                sum += line.height[c];
            }
            asked = part == which ? length : asked;
            return which == NONE ? part + 1 : asked;
        }

        /**
         * A way is one number: the sum, then ship by ship its column, four bits each, so that the least
         * number is the least sum and then the first way.
         */
        private int moored(int ship) {
            int all = (1 << told.ships) - 1;
            for (int set = 0; set <= all; set++) {
                ways[set] = set == 0 ? 0 : NO_WAY;
            }
            for (int c = 0; c < told.w; c++) {
                for (int set = all; set > 0; set--) {
                    ways[set] = Math.min(ways[set], wayWith(set, c));
                }
            }
            if (ways[all] == NO_WAY) {
                return NONE;
            }
            return ship == NONE ? (int) (ways[all] >> 32) : (int) (ways[all] >> shiftOf(ship) & 15);
        }

        private static int shiftOf(int ship) {
            return 4 * (MOST_SHIPS - 1 - ship);
        }

        /** The best way for a set of ships of which one lies at this column, the others below. */
        private long wayWith(int set, int c) {
            long best = NO_WAY;
            for (int s = 0; s < told.ships; s++) {
                if ((set >> s & 1) == 1 && line.height[c] >= told.draught[s]
                        && ways[set & ~(1 << s)] != NO_WAY) {
                    long far = Math.abs(line.at[s] - c);
                    best = Math.min(best, ways[set & ~(1 << s)] + (far << 32) + ((long) c << shiftOf(s)));
                }
            }
            return best;
        }

        private int shareOf(int c, int pier) {
            int all = 0;
            for (int p = 0; p < told.piers; p++) {
                weight[p] = duskOr24(line, told.kept(told.pierAt[p])) + 1;
                all += weight[p];
            }
            if (all < 1) {
                return NONE;
            }
            int left = c;
            int ahead = 0;
            int own = c * weight[pier] % all;
            for (int p = 0; p < told.piers; p++) {
                int rest = c * weight[p] % all;
                left -= c * weight[p] / all;
                ahead += rest > own || (rest == own && p < pier) ? 1 : 0;
            }
            return c * weight[pier] / all + (ahead < left ? 1 : 0);
        }

        /** Lowering by one to three: what counts of a height is its rest by four. */
        private int goodMove(int what) {
            int rests = 0;
            for (int c = 0; c < told.w; c++) {
                rests ^= line.height[c] & 3;
            }
            for (int c = 0; c < told.w && rests != 0; c++) {
                int h = line.height[c];
                int by = (h & 3) - (h & 3 ^ rests) & 3;
                if (by <= h) {
                    return what == 0 ? c : by;
                }
            }
            return NONE;
        }
    }
}
