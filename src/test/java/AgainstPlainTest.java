import java.util.ArrayList;
import java.util.Arrays;
import java.util.Collections;
import java.util.List;
import java.util.Random;

/**
 * Random runs of calls, each answer held against a plain second writing of the document: trees for the
 * law, whole copies for undo and the image, and search instead of shortcuts for what is asked in thought.
 */
public final class AgainstPlainTest {
    static final int NONE = -1;

    // ---- the law as a tree

    static final class Fault extends Exception {
        private static final long serialVersionUID = 1L;
        final int which;
        final int place;

        Fault(int which, int place) {
            super(null, null, false, false);
            this.which = which;
            this.place = place;
        }
    }

    record Tok(String text, int place) { }

    static final class Node {
        String op;
        int number;
        Node a;
        Node b;

        Node(String op, Node a, Node b) {
            this.op = op;
            this.a = a;
            this.b = b;
        }
    }

    record LawLine(String word, Node tells, Node when) { }

    record Task(int hour, String act, int which, int to) { }

    record Want(int pier, int height, int from, int to, int pays) { }

    static final List<String> LAW_WORDS = List.of("wear", "slide", "cost", "sun");
    static final List<String> NAMES = List.of("column", "height", "worn", "hour", "day", "leans", "by");

    /** One text being read; each method throws at the first token that can't stand. */
    static final class Text {
        final List<Tok> toks = new ArrayList<>();
        int at;

        Text(String s) {
            int i = 0;
            while (i < s.length()) {
                char c = s.charAt(i);
                int j = i + 1;
                if (c == ' ' || c == '\n') {
                    i++;
                    continue;
                }
                if (letter(c)) {
                    while (j < s.length() && letter(s.charAt(j))) j++;
                } else if (c >= '0' && c <= '9') {
                    while (j < s.length() && s.charAt(j) >= '0' && s.charAt(j) <= '9') j++;
                }
                toks.add(new Tok(s.substring(i, j), i));
                i = j;
            }
            toks.add(new Tok("", s.length()));
        }

        static boolean letter(char c) {
            return "abcdefghijklmnopqrstuvwxyz".indexOf(Character.toLowerCase(c)) >= 0 && c < 128;
        }

        String now() {
            return toks.get(at).text;
        }

        int place() {
            return toks.get(at).place;
        }

        boolean over() {
            return at == toks.size() - 1;
        }

        boolean accept(String t) {
            if (over() || !now().equals(t)) return false;
            at++;
            return true;
        }

        void expect(String t) throws Fault {
            if (!accept(t)) throw new Fault(1, place());
        }

        boolean isNumber() {
            return now().matches("[0-9]{1,4}");
        }

        int number(int least, int most) throws Fault {
            if (!isNumber()) throw new Fault(1, place());
            int n = Integer.parseInt(now());
            if (n < least || n > most) throw new Fault(2, place());
            at++;
            return n;
        }

        List<LawLine> law() throws Fault {
            List<LawLine> lines = new ArrayList<>();
            while (!over()) {
                String word = now();
                if (!LAW_WORDS.contains(word)) throw new Fault(1, place());
                if (lines.size() == 16) throw new Fault(3, place());
                at++;
                Node e = sum();
                Node b = accept("when") ? any(0) : null;
                expect(";");
                lines.add(new LawLine(word, e, b));
            }
            return lines;
        }

        Node any(int open) throws Fault {
            Node left = all(open);
            while (accept("or")) left = new Node("or", left, all(open));
            return left;
        }

        Node all(int open) throws Fault {
            Node left = one(open);
            while (accept("and")) left = new Node("and", left, one(open));
            return left;
        }

        Node one(int open) throws Fault {
            if (now().equals("(") || now().equals("not")) {
                if (open == 8) throw new Fault(3, place());
                if (accept("not")) return new Node("not", one(open + 1), null);
                expect("(");
                Node inside = any(open + 1);
                expect(")");
                return inside;
            }
            Node left = sum();
            for (String sign : List.of("<", "=", ">")) {
                if (accept(sign)) return new Node(sign, left, sum());
            }
            throw new Fault(1, place());
        }

        Node sum() throws Fault {
            Node left = product();
            while (true) {
                if (accept("+")) left = new Node("+", left, product());
                else if (accept("-")) left = new Node("-", left, product());
                else return left;
            }
        }

        Node product() throws Fault {
            Node left = unit();
            while (true) {
                if (accept("*")) {
                    left = new Node("*", left, unit());
                } else if (accept("/")) {
                    Node n = new Node("n", null, null);
                    n.number = number(1, 9999);
                    left = new Node("/", left, n);
                } else {
                    return left;
                }
            }
        }

        Node unit() throws Fault {
            if (NAMES.contains(now())) {
                Node n = new Node(now(), null, null);
                at++;
                return n;
            }
            Node n = new Node("n", null, null);
            n.number = number(0, 9999);
            return n;
        }

        List<Task> roster(int w) throws Fault {
            List<Task> lines = new ArrayList<>();
            while (!over()) {
                if (now().equals("at") && lines.size() == 16) throw new Fault(3, place());
                expect("at");
                int hour = number(0, 999);
                if (accept("set")) {
                    int column = number(0, w - 1);
                    expect("to");
                    lines.add(new Task(hour, "set", column, number(0, 40)));
                } else if (accept("lift")) {
                    lines.add(new Task(hour, "lift", number(1, 20), 0));
                } else if (accept("drop")) {
                    lines.add(new Task(hour, "drop", number(1, 20), 0));
                } else {
                    expect("mend");
                    lines.add(new Task(hour, "mend", number(0, w - 1), 0));
                }
                expect(";");
            }
            return lines;
        }

        List<Want> wants(int piers) throws Fault {
            List<Want> lines = new ArrayList<>();
            while (!over()) {
                if (now().equals("pier") && lines.size() == 12) throw new Fault(3, place());
                expect("pier");
                int pier = number(0, piers - 1);
                expect("wants");
                int height = number(0, 40);
                expect("from");
                int from = number(0, 23);
                expect("to");
                int to = number(from, 23);
                expect("pays");
                int pays = number(0, 99);
                expect(";");
                lines.add(new Want(pier, height, from, to, pays));
            }
            return lines;
        }
    }

    // ---- all that is, in one thing that can be copied whole

    static final class All implements Cloneable {
        int w = 10;
        int steep = 3;
        int gusts;
        int coin;
        int breaks;
        int hour;
        int state;
        int[] height = new int[10];
        int[] worn = new int[10];
        List<int[]> ships = new ArrayList<>();
        List<int[]> piers = new ArrayList<>();
        List<int[]> book = new ArrayList<>();
        List<int[]> sunsets = new ArrayList<>();
        List<LawLine> law = new ArrayList<>();
        List<Task> roster = new ArrayList<>();
        List<Want> wants = new ArrayList<>();

        All(int w, int state) {
            this.w = w;
            this.state = state;
            height = new int[w];
            worn = new int[w];
            Arrays.fill(height, 10);
        }

        static List<int[]> deep(List<int[]> from) {
            List<int[]> to = new ArrayList<>();
            for (int[] row : from) to.add(row.clone());
            return to;
        }

        All copy() {
            try {
                All c = (All) clone();
                c.height = height.clone();
                c.worn = worn.clone();
                c.ships = deep(ships);
                c.piers = deep(piers);
                c.book = deep(book);
                c.sunsets = deep(sunsets);
                return c;
            } catch (CloneNotSupportedException e) {
                throw new IllegalStateException(e);
            }
        }

        int work(Node n, int[] names) {
            switch (n.op) {
                case "n": return n.number;
                case "+": return work(n.a, names) + work(n.b, names);
                case "-": return work(n.a, names) - work(n.b, names);
                case "*": return work(n.a, names) * work(n.b, names);
                case "/": return work(n.a, names) / n.b.number;
                default: return names[NAMES.indexOf(n.op)];
            }
        }

        boolean so(Node n, int[] names) {
            switch (n.op) {
                case "or": return so(n.a, names) || so(n.b, names);
                case "and": return so(n.a, names) && so(n.b, names);
                case "not": return !so(n.a, names);
                case "<": return work(n.a, names) < work(n.b, names);
                case "=": return work(n.a, names) == work(n.b, names);
                default: return work(n.a, names) > work(n.b, names);
            }
        }

        int leans(int c) {
            int far = 0;
            for (int d = c - 1; d <= c + 1; d += 2) {
                if (d >= 0 && d < w) far = Math.max(far, Math.abs(height[c] - height[d]));
            }
            return far;
        }

        int tell(String word, int c, int hourOfDay, int by) {
            int[] names = {c, height[c], worn[c], hourOfDay, hour / 24, leans(c), by};
            int v = switch (word) {
                case "wear" -> leans(c);
                case "slide" -> 2;
                case "cost" -> by;
                default -> 60 - 3 * hourOfDay;
            };
            for (LawLine l : law) {
                if (l.word.equals(word) && (l.when == null || so(l.when, names))) {
                    v = work(l.tells, names);
                    break;
                }
            }
            int most = word.equals("slide") ? 40 : word.equals("cost") ? 999 : 99;
            return v < 0 ? 0 : Math.min(v, most);
        }

        int tell(String word, int c) {
            return tell(word, c, hour % 24, 0);
        }

        int dusk(int c) {
            for (int h = 0; h < 24; h++) {
                if (tell("sun", c, h, 0) <= height[c]) return h;
            }
            return NONE;
        }

        void note(int what, int which, int much) {
            if (book.size() < 150) book.add(new int[] {hour, what, which, much});
        }

        int draw(int m) {
            state = state * 1664525 + 1013904223;
            return (int) (((state & 0xffffffffL) >> 8) % m);
        }

        int costs(int c, int n) {
            return tell("cost", c, hour % 24, Math.max(0, n - height[c]));
        }

        void setTo(int c, int n) {
            coin -= costs(c, n);
            height[c] = Math.min(n, 40 - worn[c] / 4);
            note(0, c, height[c]);
        }

        void liftAll(int n) {
            for (int c = 0; c < w; c++) setTo(c, Math.max(0, Math.min(40, height[c] + n)));
        }

        void mend(int c) {
            int cost = worn[c];
            coin -= cost;
            worn[c] = 0;
            note(1, c, cost);
        }

        /** An hour; whom it scraped first, what broke first and how many were paid go to the three. */
        void pass(boolean gusty, int[] tally) {
            for (Task t : roster) {
                if (t.hour != hour) continue;
                switch (t.act) {
                    case "set" -> setTo(t.which, t.to);
                    case "lift" -> liftAll(t.which);
                    case "drop" -> liftAll(-t.which);
                    default -> mend(t.which);
                }
            }
            for (int s = 0; s < ships.size(); s++) {
                int[] ship = ships.get(s);
                int c = ship[0];
                int best = NONE;
                if (c > 0) best = c - 1;
                if (c < w - 1 && (best == NONE || height[c + 1] < height[best])) best = c + 1;
                if (height[c] - height[best] > tell("slide", c)) {
                    ship[0] = best;
                    note(2, s, best);
                }
            }
            for (int s = 0; s < ships.size(); s++) {
                int[] ship = ships.get(s);
                if (height[ship[0]] < ship[1]) {
                    ship[2]++;
                    if (tally[0] == NONE) tally[0] = s;
                    note(3, s, ship[1] - height[ship[0]]);
                }
            }
            for (int i = 0; i < wants.size(); i++) {
                Want x = wants.get(i);
                if (hour % 24 >= x.from && hour % 24 <= x.to && height[piers.get(x.pier)[0]] == x.height) {
                    coin += x.pays;
                    tally[2]++;
                    note(4, i, x.pays);
                }
            }
            for (int c = 0; c < w; c++) {
                if (height[c] == 0) continue;
                worn[c] = Math.min(99, worn[c] + tell("wear", c));
                if (worn[c] == 99) {
                    note(5, c, height[c]);
                    height[c] = 0;
                    worn[c] = 0;
                    breaks++;
                    if (tally[1] == NONE) tally[1] = c;
                }
            }
            if (gusty && gusts > 0 && draw(1000) < gusts) {
                int c = draw(w);
                if (height[c] > 0) height[c]--;
                note(6, c, height[c]);
            }
            hour++;
        }

        int goes(int n, int what) {
            All t = copy();
            int[] tally = {NONE, NONE, 0};
            for (int i = 0; i < n; i++) t.pass(false, tally);
            int scraped = 0;
            for (int[] ship : t.ships) scraped += ship[2];
            return new int[] {t.coin, scraped, t.breaks, tally[0], tally[1]}[what];
        }

        /** Whether some line of heights meets all these lines: the heights that can be, column by column. */
        boolean together(List<Want> some) {
            boolean[] can = new boolean[41];
            Arrays.fill(can, true);
            for (int c = 0; c < w; c++) {
                boolean[] next = new boolean[41];
                for (int h = 0; h <= 40; h++) {
                    for (int g = 0; g <= 40; g++) {
                        if (can[g] && (c == 0 || Math.abs(g - h) <= steep)) next[h] = true;
                    }
                    for (Want x : some) {
                        if (piers.get(x.pier)[0] == c && x.height != h) next[h] = false;
                    }
                }
                can = next;
            }
            for (boolean b : can) if (b) return true;
            return false;
        }

        int meets(int hourOfDay, int what) {
            List<Integer> now = new ArrayList<>();
            for (int i = 0; i < wants.size(); i++) {
                if (hourOfDay >= wants.get(i).from && hourOfDay <= wants.get(i).to) now.add(i);
            }
            if (what >= 2) {
                for (int i : now) {
                    for (int j : now) {
                        if (i < j && !together(List.of(wants.get(i), wants.get(j)))) return what == 2 ? i : j;
                    }
                }
                return NONE;
            }
            int best = 0;
            int bestSet = 0;
            for (int pick = 0; pick < 1 << now.size(); pick++) {
                int set = 0;
                int sum = 0;
                List<Want> some = new ArrayList<>();
                for (int k = 0; k < now.size(); k++) {
                    if ((pick >> k & 1) == 1) {
                        set |= 1 << now.get(k);
                        sum += wants.get(now.get(k)).pays;
                        some.add(wants.get(now.get(k)));
                    }
                }
                if ((sum > best || (sum == best && set < bestSet)) && together(some)) {
                    best = sum;
                    bestSet = set;
                }
            }
            return what == 0 ? best : bestSet;
        }

        /** The best ways on from each height, as whole ways, compared by feet and then height by height. */
        int smooth(int what) {
            List<int[]> ways = new ArrayList<>();
            for (int c = w - 1; c >= 0; c--) {
                List<int[]> next = new ArrayList<>();
                for (int h = 0; h <= 40; h++) {
                    int[] best = null;
                    for (int[] tail : c == w - 1 ? List.of(new int[] {0, h}) : ways) {
                        if (Math.abs(tail[1] - h) > steep) continue;
                        int[] way = new int[1 + w - c];
                        way[0] = tail[0] + Math.abs(h - height[c]);
                        way[1] = h;
                        for (int i = 2; i < way.length; i++) way[i] = tail[i - 1];
                        if (best == null || Arrays.compare(way, best) < 0) best = way;
                    }
                    next.add(best);
                }
                ways = next;
            }
            int[] best = Collections.min(ways, Arrays::compare);
            return what == 0 ? best[0] : best[what - 10 + 1];
        }

        int folds() {
            int set = 0;
            for (int c = 0; c < w; c++) {
                boolean fold = true;
                for (int d = c - 1; d <= c + 1; d += 2) {
                    if (d >= 0 && d < w && !(height[c] < height[d] - tell("slide", d))) fold = false;
                }
                if (fold) set |= 1 << c;
            }
            return set;
        }

        int lifted(int what) {
            List<Integer> can = new ArrayList<>();
            List<All> lines = new ArrayList<>();
            for (int by = -20; by <= 20; by++) {
                All t = copy();
                for (int c = 0; c < w; c++) t.height[c] = Math.min(40, Math.max(0, height[c] + by));
                boolean fits = true;
                for (int[] s : sunsets) fits &= t.dusk(s[0]) == s[1];
                if (fits) {
                    can.add(by);
                    lines.add(t);
                }
            }
            if (what == 0) return can.size();
            if (what == 1) return can.isEmpty() ? -100 : can.get(0);
            if (can.size() < 2) return NONE;
            int best = NONE;
            int least = 99;
            for (int c = 0; c < w; c++) {
                int[] by = new int[25];
                int most = 0;
                for (All t : lines) most = Math.max(most, ++by[t.dusk(c) + 1]);
                if (most < least) {
                    least = most;
                    best = c;
                }
            }
            return best;
        }

        boolean sees(int[] pier, int c) {
            for (int d = Math.min(pier[0], c) + 1; d < Math.max(pier[0], c); d++) {
                if (height[d] > height[pier[0]] + pier[1]) return false;
            }
            return true;
        }

        int seesSet(int[] pier) {
            int set = 0;
            for (int c = 0; c < w; c++) if (sees(pier, c)) set |= 1 << c;
            return set;
        }

        int over(int columns) {
            int set = 0;
            for (int p = 0; p < piers.size(); p++) {
                if ((seesSet(piers.get(p)) | columns) == seesSet(piers.get(p))) set |= 1 << p;
            }
            return set;
        }

        int watch(int what) {
            for (int size = 1; size <= piers.size(); size++) {
                for (int set = 0; set < 1 << piers.size(); set++) {
                    if (Integer.bitCount(set) != size) continue;
                    int seen = 0;
                    for (int p = 0; p < piers.size(); p++) {
                        if ((set >> p & 1) == 1) seen |= seesSet(piers.get(p));
                    }
                    if (seen == (1 << w) - 1) return what == 0 ? size : set;
                }
            }
            return NONE;
        }

        /** All ways to cut the line into parts. */
        int coils(int l, int what) {
            int[] best = null;
            for (int cuts = 0; cuts < 1 << (w - 1); cuts++) {
                int[] lengths = new int[w + 1];
                int part = 1;
                int sum = 0;
                boolean fits = true;
                for (int c = 0; c < w; c++) {
                    if (c > 0 && (cuts >> (c - 1) & 1) == 1) {
                        part++;
                        sum = 0;
                    }
                    sum += height[c];
                    fits &= sum <= l;
                    lengths[part]--;
                }
                lengths[0] = part;
                if (fits && (best == null || Arrays.compare(lengths, best) < 0)) best = lengths;
            }
            if (best == null) return NONE;
            if (what == 0) return best[0];
            return what - 10 < best[0] ? -best[what - 10 + 1] : NONE;
        }

        int[] mooring;

        void moor(int s, int[] way, int used) {
            if (mooring != null && way[0] > mooring[0]) return;
            if (s == ships.size()) {
                if (mooring == null || Arrays.compare(way, mooring) < 0) mooring = way.clone();
                return;
            }
            for (int c = 0; c < w; c++) {
                if ((used >> c & 1) == 1 || height[c] < ships.get(s)[1]) continue;
                way[0] += Math.abs(c - ships.get(s)[0]);
                way[1 + s] = c;
                moor(s + 1, way, used | 1 << c);
                way[0] -= Math.abs(c - ships.get(s)[0]);
            }
        }

        int moors(int what) {
            mooring = null;
            moor(0, new int[1 + ships.size()], 0);
            if (mooring == null) return NONE;
            return what == 0 ? mooring[0] : mooring[what - 10 + 1];
        }

        int part(int c, int pier) {
            List<int[]> rests = new ArrayList<>();
            int total = 0;
            for (int[] p : piers) total += (dusk(p[0]) == NONE ? 24 : dusk(p[0])) + 1;
            int[] pays = new int[piers.size()];
            int left = c;
            for (int p = 0; p < piers.size(); p++) {
                int d = dusk(piers.get(p)[0]);
                int share = c * ((d == NONE ? 24 : d) + 1);
                pays[p] = share / total;
                left -= pays[p];
                rests.add(new int[] {-(share % total), p});
            }
            rests.sort(Arrays::compare);
            for (int i = 0; i < left; i++) pays[rests.get(i)[1]]++;
            return pays[pier];
        }

        static int worth(int h) {
            int[] g = new int[41];
            for (int k = 1; k <= h; k++) {
                boolean[] reached = new boolean[5];
                for (int by = 1; by <= 3 && by <= k; by++) reached[g[k - by]] = true;
                while (reached[g[k]]) g[k]++;
            }
            return g[h];
        }

        int game(int what) {
            int all = 0;
            for (int h : height) all ^= worth(h);
            if (all == 0) return NONE;
            for (int c = 0; c < w; c++) {
                for (int by = 1; by <= 3 && by <= height[c]; by++) {
                    if ((all ^ worth(height[c]) ^ worth(height[c] - by)) == 0) return what == 0 ? c : by;
                }
            }
            throw new IllegalStateException("no move");
        }
    }

    // ---- the face of the plain writing

    static final class Plain {
        All all = new All(10, 0);
        All image;
        List<All> past = new ArrayList<>();
        StringBuilder tape = new StringBuilder();
        int fault;
        int faultPlace = NONE;

        static boolean in(int v, int a, int b) {
            return a <= v && v <= b;
        }

        boolean column(int c) {
            return in(c, 0, all.w - 1);
        }

        int yes() {
            past.clear();
            return 1;
        }

        void keep() {
            past.add(all.copy());
            if (past.size() > 6) past.remove(0);
        }

        int call(int method, int[] v) {
            int a = v[0];
            int b = v[1];
            int c = v[2];
            switch (method) {
                case 0: {
                    int was = all.state;
                    all.state = a;
                    past.clear();
                    return was;
                }
                case 1:
                    if (!in(a, 3, 14)) return 0;
                    all = new All(a, all.state);
                    return yes();
                case 2:
                    if (!column(a) || !in(b, 0, 40) || all.ships.size() == 8) return NONE;
                    all.ships.add(new int[] {a, b, 0});
                    past.clear();
                    return all.ships.size() - 1;
                case 3:
                    if (!column(a) || !in(b, 0, 20) || all.piers.size() == 6) return NONE;
                    all.piers.add(new int[] {a, b});
                    past.clear();
                    return all.piers.size() - 1;
                case 4: return set(a, b, c);
                case 5:
                    if (!column(a) || !in(b, 0, 40)) return NONE;
                    keep();
                    all.setTo(a, b);
                    return all.height[a];
                case 6: {
                    if (!in(a, -20, 20) || a == 0) return NONE;
                    keep();
                    int before = all.coin;
                    all.liftAll(a);
                    return before - all.coin;
                }
                case 7: {
                    if (!column(a)) return NONE;
                    keep();
                    int cost = all.worn[a];
                    all.mend(a);
                    return cost;
                }
                case 8: {
                    if (!in(a, 1, 60) || all.hour + a > 9999) return NONE;
                    int[] tally = {NONE, NONE, 0};
                    for (int i = 0; i < a; i++) {
                        keep();
                        all.pass(true, tally);
                    }
                    return tally[2];
                }
                case 9:
                    if (tape.length() + 20 > 400) return NONE;
                    for (int n : v) {
                        for (int shift = 24; shift >= 0; shift -= 8) tape.append((char) (n >>> shift & 255));
                    }
                    return tape.length();
                case 10:
                    if (!in(a, 0, tape.length())) return 0;
                    tape.setLength(a);
                    return 1;
                case 11: return text(a);
                case 12: return a == 0 ? fault : a == 1 ? faultPlace : NONE;
                case 13:
                    if (!column(a) || !in(b, 0, 5)) return NONE - 1;
                    return switch (b) {
                        case 0 -> all.height[a];
                        case 1 -> all.worn[a];
                        case 2 -> all.tell("wear", a);
                        case 3 -> all.tell("slide", a);
                        case 4 -> all.dusk(a);
                        default -> all.leans(a);
                    };
                case 14: return column(a) && in(b, 0, 23) ? all.tell("sun", a, b, 0) : NONE;
                case 15: return column(a) && in(b, 0, 40) ? all.costs(a, b) : NONE;
                case 16: return in(a, 0, all.ships.size() - 1) && in(b, 0, 2) ? all.ships.get(a)[b] : NONE;
                case 17:
                    if (!in(a, 0, all.piers.size() - 1) || !in(b, 0, 2)) return NONE;
                    return b == 2 ? all.seesSet(all.piers.get(a)) : all.piers.get(a)[b];
                case 18: return in(a, 0, all.book.size() - 1) && in(b, 0, 3) ? all.book.get(a)[b] : NONE;
                default: return think(method, a, b);
            }
        }

        int set(int what, int who, int v) {
            if (what == 0 && in(v, 1, 9)) all.steep = v;
            else if (what == 1 && in(v, 0, 1000)) all.gusts = v;
            else if (what == 2 && column(who) && in(v, 0, 99)) all.worn[who] = v;
            else if (what == 3 && in(who, 0, all.ships.size() - 1) && column(v)) all.ships.get(who)[0] = v;
            else if (what == 4 && in(who, 0, all.piers.size() - 1) && column(v)) all.piers.get(who)[0] = v;
            else return 0;
            return yes();
        }

        int text(int k) {
            fault = 0;
            faultPlace = NONE;
            Text t = new Text(tape.toString());
            tape.setLength(0);
            try {
                switch (k) {
                    case 0:
                        all.law = t.law();
                        return all.law.size();
                    case 1:
                        all.roster = t.roster(all.w);
                        past.clear();
                        return all.roster.size();
                    case 2:
                        all.wants = t.wants(all.piers.size());
                        return all.wants.size();
                    default: return NONE;
                }
            } catch (Fault f) {
                fault = f.which;
                faultPlace = f.place;
                return NONE;
            }
        }

        int think(int method, int a, int b) {
            switch (method) {
                case 19: return in(a, 1, 99) && in(b, 0, 4) ? all.goes(a, b) : -100000;
                case 20: return in(a, 0, 23) && in(b, 0, 3) ? all.meets(a, b) : NONE;
                case 21: return a == 0 || in(a, 10, 9 + all.w) ? all.smooth(a) : NONE;
                case 22: return all.folds();
                case 23:
                    if (a == NONE) {
                        all.sunsets.clear();
                        return 0;
                    }
                    if (!column(a) || !in(b, 0, 23) || all.sunsets.size() == 8) return NONE;
                    all.sunsets.add(new int[] {a, b});
                    return all.sunsets.size();
                case 24: return in(a, 0, 2) ? all.lifted(a) : -100;
                case 25: return a >= 0 && a < 1 << all.w ? all.over(a) : NONE;
                case 26: return in(a, 0, 1) ? all.watch(a) : NONE;
                case 27: return in(a, 1, 200) && (b == 0 || in(b, 10, 50)) ? all.coils(a, b) : NONE;
                case 28: return a == 0 || in(a, 10, 9 + all.ships.size()) ? all.moors(a) : NONE;
                case 29:
                    if (!in(a, 0, 9999) || !in(b, 0, 999)) return NONE;
                    return (int) Math.ceil(a * 1000.0 / (1000 - b) - 1e-9);
                case 30: return in(a, 0, 9999) && in(b, 0, all.piers.size() - 1) ? all.part(a, b) : NONE;
                case 31: return in(a, 0, 1) ? all.game(a) : NONE;
                case 32: {
                    if (past.isEmpty()) return 0;
                    All back = past.remove(past.size() - 1);
                    back.law = all.law;
                    back.wants = all.wants;
                    back.sunsets = all.sunsets;
                    all = back;
                    return 1;
                }
                case 33:
                    if (a == 1) image = all.copy();
                    if (image == null) return 0;
                    if (a == 0) {
                        all = image.copy();
                        past.clear();
                    }
                    return 1;
                default: return look(a);
            }
        }

        int look(int what) {
            int[] seen = {all.w, all.ships.size(), all.piers.size(), all.hour, all.steep, all.gusts, all.coin,
                all.breaks, all.book.size(), all.state, all.law.size(), all.roster.size(), all.wants.size(),
                all.sunsets.size(), past.size()};
            return in(what, 0, 14) ? seen[what] : -100000;
        }
    }

    static int bool(boolean b) {
        return b ? 1 : 0;
    }

    static final String[] CALLS = {"state", "sea", "ship", "pier", "set", "raise", "lift", "mend", "hours", "feed",
        "end", "text", "fault", "of", "sun", "costs", "shipOf", "pierOf", "book", "goes", "meets", "smooth", "folds",
        "sunset", "lifted", "over", "watch", "coils", "moors", "fee", "part", "game", "undo", "image", "look"};

    static int call(LetHorizon x, int method, int[] v) {
        int a = v[0];
        int b = v[1];
        switch (method) {
            case 0: return x.state(a);
            case 1: return bool(x.sea(a));
            case 2: return x.ship(a, b);
            case 3: return x.pier(a, b);
            case 4: return bool(x.set(a, b, v[2]));
            case 5: return x.raise(a, b);
            case 6: return x.lift(a);
            case 7: return x.mend(a);
            case 8: return x.hours(a);
            case 9: return x.feed(a, b, v[2], v[3], v[4]);
            case 10: return bool(x.end(a));
            case 11: return x.text(a);
            case 12: return x.fault(a);
            case 13: return x.of(a, b);
            case 14: return x.sun(a, b);
            case 15: return x.costs(a, b);
            case 16: return x.shipOf(a, b);
            case 17: return x.pierOf(a, b);
            case 18: return x.book(a, b);
            case 19: return x.goes(a, b);
            case 20: return x.meets(a, b);
            case 21: return x.smooth(a);
            case 22: return x.folds();
            case 23: return x.sunset(a, b);
            case 24: return x.lifted(a);
            case 25: return x.over(a);
            case 26: return x.watch(a);
            case 27: return x.coils(a, b);
            case 28: return x.moors(a);
            case 29: return x.fee(a, b);
            case 30: return x.part(a, b);
            case 31: return x.game(a);
            case 32: return bool(x.undo());
            case 33: return bool(x.image(a == 1));
            default: return x.look(a);
        }
    }

    // ---- runs

    static Random dice;
    static LetHorizon x;
    static Plain plain;
    static int run;
    static int wrong;
    static long made;
    static List<String> said = new ArrayList<>();
    static final int[] ANSWERED = new int[CALLS.length];

    static int roll(int least, int most) {
        return least + dice.nextInt(most - least + 1);
    }

    static int go(int method, int... given) {
        int[] v = Arrays.copyOf(given, 5);
        int got = call(x, method, v);
        int want = plain.call(method, v);
        made++;
        if (want != NONE) ANSWERED[method]++;
        said.add(CALLS[method] + Arrays.toString(given) + " = " + want);
        if (got != want) {
            wrong++;
            if (wrong <= 3) {
                System.out.println("run " + run + ": " + CALLS[method] + Arrays.toString(given) + " answered " + got
                    + ", plain says " + want + "; ahead: " + said.subList(Math.max(0, said.size() - 40), said.size()));
            }
        }
        return want;
    }

    static void say(int k, String text) {
        int n = Math.min(400, text.length());
        for (int i = 0; i < n; i += 20) {
            int[] v = new int[5];
            for (int j = 0; j < 20; j++) {
                int sign = i + j < text.length() ? text.charAt(i + j) & 255 : ' ';
                v[j / 4] = v[j / 4] << 8 | sign;
            }
            go(9, v);
        }
        go(10, n);
        said.add("\"" + text + "\"");
        go(11, k);
        go(12, 0);
        go(12, 1);
    }

    static String pick(String... of) {
        return of[dice.nextInt(of.length)];
    }

    static String blank() {
        return dice.nextInt(12) == 0 ? pick("\n", "  ", " \n ") : " ";
    }

    static String unit() {
        return dice.nextInt(3) > 0 ? NAMES.get(dice.nextInt(7)) : "" + (dice.nextInt(8) == 0 ? roll(0, 9999) : roll(0, 60));
    }

    static String sumText() {
        StringBuilder s = new StringBuilder(unit());
        int more = dice.nextInt(4);
        for (int i = 0; i < more; i++) {
            String sign = pick("+", "-", "*", "/");
            s.append(dice.nextBoolean() ? " " : "").append(sign).append(dice.nextBoolean() ? " " : "");
            s.append(sign.equals("/") ? "" + roll(dice.nextInt(20) == 0 ? 0 : 1, 9) : unit());
        }
        return s.toString();
    }

    static String conditionText(int deep) {
        int kind = dice.nextInt(10);
        if (deep > 0 && kind < 2) return "not " + conditionText(deep - 1);
        if (deep > 0 && kind < 4) return "(" + conditionText(deep - 1) + ")";
        if (deep > 0 && kind < 7) return conditionText(deep - 1) + pick(" or ", " and ") + conditionText(deep - 1);
        return sumText() + pick("<", "=", ">", " < ", " = ", " > ") + sumText();
    }

    static String lawText() {
        StringBuilder s = new StringBuilder();
        int lines = dice.nextInt(6);
        if (dice.nextInt(15) == 0) {
            for (int i = 0; i < roll(15, 18); i++) s.append(pick("wear", "slide", "cost", "sun")).append(" 1;");
            return s.toString();
        }
        for (int i = 0; i < lines; i++) {
            s.append(pick("wear", "slide", "cost", "sun")).append(blank()).append(sumText());
            if (dice.nextInt(3) > 0) s.append(blank()).append("when ").append(conditionText(dice.nextInt(11)));
            s.append(";").append(blank());
        }
        return s.toString();
    }

    static String rosterText() {
        StringBuilder s = new StringBuilder();
        int lines = dice.nextInt(9) == 0 ? roll(14, 18) : dice.nextInt(7);
        for (int i = 0; i < lines; i++) {
            int hour = dice.nextInt(60) == 0 ? roll(990, 1001) : plain.all.hour + dice.nextInt(8);
            int column = dice.nextInt(60) == 0 ? plain.all.w : dice.nextInt(plain.all.w);
            s.append("at ").append(Math.min(hour, 1001)).append(" ");
            switch (dice.nextInt(4)) {
                case 0 -> s.append("set ").append(column).append(" to ").append(roll(0, dice.nextInt(30) == 0 ? 42 : 40));
                case 1 -> s.append("lift ").append(roll(dice.nextInt(30) == 0 ? 0 : 1, dice.nextInt(30) == 0 ? 22 : 20));
                case 2 -> s.append("drop ").append(roll(dice.nextInt(30) == 0 ? 0 : 1, dice.nextInt(30) == 0 ? 22 : 20));
                default -> s.append("mend ").append(column);
            }
            s.append(";").append(blank());
        }
        return s.toString();
    }

    static String wantsText() {
        StringBuilder s = new StringBuilder();
        int lines = dice.nextInt(4) == 0 ? roll(8, 13) : dice.nextInt(6);
        int height = roll(0, 30);
        for (int i = 0; i < lines; i++) {
            int from = dice.nextInt(3) == 0 ? dice.nextInt(24) : dice.nextInt(4);
            int to = dice.nextInt(40) == 0 ? roll(0, 25) : from + dice.nextInt(24 - from);
            int pier = dice.nextInt(40) == 0 ? plain.all.piers.size() : dice.nextInt(Math.max(1, plain.all.piers.size()));
            s.append("pier ").append(pier).append(" wants ").append(roll(height, Math.min(41, height + 10)));
            s.append(" from ").append(from).append(" to ").append(to);
            s.append(" pays ").append(dice.nextInt(3) == 0 ? roll(0, 3) : roll(0, dice.nextInt(40) == 0 ? 101 : 99));
            s.append(";").append(lines > 8 ? "" : blank());
        }
        return s.toString();
    }

    /** Now and then one sign is changed, left out or put in. */
    static String spoilt(String s) {
        if (s.isEmpty() || dice.nextInt(3) > 0) return s;
        int i = dice.nextInt(s.length());
        String sign = pick("", "x", "9", ";", "(", ")", " ", "\n", "+", "=", "X", "" + (char) 233, "" + (char) 0, "\t", "not", "1");
        return s.substring(0, i) + sign + s.substring(dice.nextBoolean() ? i : i + 1);
    }

    /** A number that mostly can be and now and then can't. */
    static int near(int least, int most) {
        int kind = dice.nextInt(30);
        if (kind == 0) return pickInt(Integer.MIN_VALUE, Integer.MAX_VALUE, -1, 0, 1 << 20, -99);
        if (kind == 1) return least - 1;
        if (kind == 2) return most + 1;
        if (kind == 3) return least;
        if (kind == 4) return most;
        return roll(least, Math.max(least, most));
    }

    static int pickInt(int... of) {
        return of[dice.nextInt(of.length)];
    }

    static void change() {
        int w = plain.all.w;
        switch (dice.nextInt(22)) {
            case 0 -> go(0, dice.nextInt());
            case 1 -> { if (dice.nextInt(4) == 0) go(1, near(3, 14)); }
            case 2 -> { if (plain.all.ships.size() < 5 || dice.nextInt(30) == 0) go(2, near(0, w - 1), near(0, 40)); }
            case 3, 4 -> go(3, near(0, w - 1), near(0, 20));
            case 5 -> go(4, 0, dice.nextInt(), near(1, 9));
            case 6 -> go(4, 1, dice.nextInt(), near(0, 1000));
            case 7 -> go(4, 2, near(0, w - 1), near(0, 99));
            case 8 -> go(4, 3, near(0, plain.all.ships.size() - 1), near(0, w - 1));
            case 9 -> go(4, 4, near(0, plain.all.piers.size() - 1), near(0, w - 1));
            case 10, 11, 12 -> go(5, near(0, w - 1), dice.nextInt(3) == 0 ? roll(8, 13) : near(0, 40));
            case 13 -> go(6, near(-20, 20));
            case 14 -> go(7, near(0, w - 1));
            case 15, 16 -> go(8, dice.nextInt(4) == 0 ? near(1, 60) : roll(1, 8));
            case 17 -> say(0, spoilt(lawText()));
            case 18 -> say(1, spoilt(rosterText()));
            case 19 -> say(2, spoilt(wantsText()));
            case 20 -> go(23, near(0, w - 1), dice.nextInt(4) == 0 ? near(0, 23) : hold(plain.all.dusk(dice.nextInt(w))));
            default -> odd();
        }
    }

    static int hold(int hour) {
        return hour == NONE ? 3 : hour;
    }

    static void odd() {
        switch (dice.nextInt(8)) {
            case 0 -> go(23, NONE, dice.nextInt());
            case 1 -> go(33, dice.nextInt(2));
            case 2 -> go(9, dice.nextInt(), dice.nextInt(), dice.nextInt(), dice.nextInt(), dice.nextInt());
            case 3 -> go(10, near(0, plain.tape.length()));
            case 4 -> go(11, near(0, 2));
            case 5 -> go(4, near(0, 4), near(0, 5), near(0, 99));
            default -> go(32);
        }
    }

    static void ask() {
        int w = plain.all.w;
        switch (dice.nextInt(19)) {
            case 0 -> go(13, near(0, w - 1), near(0, 5));
            case 1 -> go(14, near(0, w - 1), near(0, 23));
            case 2 -> go(15, near(0, w - 1), near(0, 40));
            case 3 -> go(16, near(0, plain.all.ships.size() - 1), near(0, 2));
            case 4 -> go(17, near(0, plain.all.piers.size() - 1), near(0, 2));
            case 5 -> go(18, near(0, plain.all.book.size() - 1), near(0, 3));
            case 6 -> go(19, near(1, 99), near(0, 4));
            case 7 -> go(20, dice.nextInt(3) == 0 ? near(0, 23) : roll(0, 6), near(0, 3));
            case 8 -> go(21, dice.nextInt(4) == 0 ? near(0, 0) : near(10, 9 + w));
            case 9 -> go(22);
            case 10 -> go(24, near(0, 2));
            case 11 -> go(25, near(0, (1 << w) - 1) & (dice.nextBoolean() ? 1 << dice.nextInt(w) : -1));
            case 12 -> go(26, near(0, 1));
            case 13 -> go(27, near(1, 200), dice.nextInt(4) == 0 ? near(0, 0) : near(10, 14));
            case 14 -> go(28, dice.nextInt(4) == 0 ? near(0, 0) : near(10, 9 + plain.all.ships.size()));
            case 15 -> go(29, near(0, 9999), near(0, 999));
            case 16 -> go(30, near(0, 9999), near(0, plain.all.piers.size() - 1));
            case 17 -> go(31, near(0, 1));
            default -> go(34, near(0, 14));
        }
    }

    static void lookAtAll() {
        for (int what = 0; what <= 15; what++) go(34, what);
        for (int c = 0; c < plain.all.w; c++) {
            go(13, c, 0);
            go(13, c, 1);
        }
    }

    public static void main(String[] args) {
        int runs = args.length > 0 ? Integer.parseInt(args[0]) : 400;
        int first = args.length > 1 ? Integer.parseInt(args[1]) : 1;
        for (run = first; run < first + runs && wrong < 3; run++) {
            dice = new Random(run);
            x = new LetHorizon();
            plain = new Plain();
            said.clear();
            if (dice.nextBoolean()) go(1, roll(3, 14));
            for (int i = 0; i < 110 && wrong < 3; i++) {
                change();
                ask();
                ask();
            }
            lookAtAll();
        }
        for (int m = 0; m < CALLS.length; m++) {
            if (runs >= 100 && ANSWERED[m] < 20) {
                wrong++;
                System.out.println(CALLS[m] + " was hardly answered: " + ANSWERED[m]);
            }
        }
        System.out.println(made + " calls, " + wrong + " not as the plain writing answers");
        if (wrong != 0) System.exit(1);
    }
}
