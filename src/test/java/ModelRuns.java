import java.util.ArrayList;
import java.util.Arrays;
import java.util.List;
import java.util.Random;
import java.util.regex.Matcher;
import java.util.regex.Pattern;

/**
 * Random runs of calls, each answered by PrintedByFrost and by a second, plain model of the document
 * that shares no way of doing it: panes as grids, acts by Java's own super, papers by minimax, words
 * by trying all choices, presses by patterns. The seeds are fixed, so that every run is the same.
 */
public final class ModelRuns {
    private static final int OBJECTS = 500;
    private static final int CALLS = 512;
    private static int wrong = 0;

    public static void main(String[] args) {
        for (int seed = 1; seed <= OBJECTS && wrong < 20; seed++) {
            new Run(seed).go();
        }
        System.out.println(wrong == 0 ? "the program answers as the model" : wrong + " runs differ");
        if (wrong != 0) {
            System.exit(1);
        }
    }

    /** One run on one object; stops at the first answer that differs. */
    private static final class Run {
        final int seed;
        final Random random;
        final PrintedByFrost real = new PrintedByFrost();
        final Model model = new Model();
        final List<String> log = new ArrayList<>();
        boolean differs = false;

        Run(int seed) {
            this.seed = seed;
            this.random = new Random(seed);
        }

        void go() {
            if (seed % 4 != 0) {
                furnish();
            }
            for (int calls = log.size(); calls < CALLS && !differs; calls = log.size()) {
                step();
            }
        }

        void due(String call, long got, long want) {
            log.add(call + " = " + got);
            if (got != want && !differs) {
                differs = true;
                wrong++;
                System.out.println("seed " + seed + ": " + call + " answered " + got + ", due is " + want);
                for (String line : log.subList(Math.max(0, log.size() - 40), log.size())) {
                    System.out.println("    " + line);
                }
            }
        }

        /** Fills most runs with letters and panes at once, as random calls alone do so slowly. */
        void furnish() {
            int letters = random.nextInt(9);
            int first = random.nextInt(65536);
            for (int i = 0; i < letters; i++) {
                int cells = random.nextInt(3) == 0 ? random.nextInt(65536) : first ^ fewBits();
                due("form " + cells, real.form(cells), model.form(cells));
            }
            int panes = random.nextInt(9);
            for (int i = 0; i < panes; i++) {
                int kind = random.nextInt(7);
                int room = random.nextInt(10);
                int a = random.nextInt(10);
                due("pane " + kind + " " + room + " " + a, real.pane(kind, room, a), model.pane(kind, room, a));
                int letter = random.nextInt(letters + 1) - 1;
                due("hang " + i + " " + letter, real.hang(i, letter), model.hang(i, letter));
            }
        }

        int fewBits() {
            int bits = 0;
            for (int i = random.nextInt(5); i > 0; i--) {
                bits |= 1 << random.nextInt(16);
            }
            return bits;
        }

        boolean rarely() {
            return random.nextInt(25) == 0;
        }

        int wild() {
            int[] wilds = {-1, -2, 7, 8, 9, 10, 16, 17, 24, 25, 40, 41, 160, 161, 65535, 65536,
                Integer.MAX_VALUE, Integer.MIN_VALUE, 1 << 16, -100};
            return wilds[random.nextInt(wilds.length)];
        }

        int below(int n) {
            return rarely() ? wild() : random.nextInt(Math.max(n, 1));
        }

        int aPane() {
            return below(model.panes.size());
        }

        int aLetter() {
            return below(model.forms.size());
        }

        int letterOrNone() {
            return random.nextInt(6) == 0 ? -1 : aLetter();
        }

        int anHour() {
            return random.nextInt(2) == 0 ? below(4) : below(25);
        }

        int aShelf() {
            return below(8);
        }

        int aShape() {
            if (model.forms.isEmpty() || random.nextInt(4) == 0) {
                return below(65536);
            }
            return model.forms.get(random.nextInt(model.forms.size())) ^ fewBits();
        }

        void step() {
            int which = random.nextInt(60);
            if (which < 30) {
                oneOfFrost(which);
            } else if (which < 45) {
                oneOfTruth(which - 30);
            } else {
                oneOfShelves(which - 45);
            }
        }

        void oneOfFrost(int which) {
            int p = aPane();
            int l = aLetter();
            int n = letterOrNone();
            int h = anHour();
            int o = aLetter();
            int c = below(16);
            int v = aShape();
            switch (which) {
                case 0: due("form " + v, real.form(v), model.form(v)); break;
                case 1: due("formOf " + l, real.formOf(l), model.formOf(l)); break;
                case 2: newPane(); break;
                case 3: case 4: due("hang " + p + " " + n, real.hang(p, n), model.hang(p, n)); break;
                case 5: due("hangs " + p, real.hangs(p), model.hangs(p)); break;
                case 6: case 7: weather(); break;
                case 8: roomOf(p); break;
                case 9: due("melt " + p + " " + h, real.melt(p, h), model.melt(p, h)); break;
                case 10: case 11: due("ice " + p + " " + n + " " + h + " " + c,
                        real.ice(p, n, h, c), model.ice(p, n, h, c)); break;
                case 12: case 13: due("shape " + p + " " + n + " " + h,
                        real.shape(p, n, h), model.shape(p, n, h)); break;
                case 14: due("reads " + v, real.reads(v), model.reads(v)); break;
                case 15: due("readsAs " + p + " " + n + " " + h,
                        real.readsAs(p, n, h), model.readsAs(p, n, h)); break;
                case 16: due("lasts " + p + " " + n, real.lasts(p, n), model.lasts(p, n)); break;
                case 17: due("page " + h, real.page(h), model.page(h)); break;
                case 18: due("becomes " + l, real.becomes(l), model.becomes(l)); break;
                case 19: due("turns " + p + " " + l + " " + o,
                        real.turns(p, l, o), model.turns(p, l, o)); break;
                case 20: couldShow(p, h, v, n); break;
                case 21: due("unlike " + l + " " + o, real.unlike(l, o), model.unlike(l, o)); break;
                case 22: due("closest", real.closest(), model.closest()); break;
                case 23: due("mend " + l, real.mend(l), model.mend(l)); break;
                case 24: due("stove " + p + " " + n + " " + h,
                        real.stove(p, n, h), model.stove(p, n, h)); break;
                case 25: due("chill " + p + " " + n + " " + h,
                        real.chill(p, n, h), model.chill(p, n, h)); break;
                case 26: due("mistaken", real.mistaken(), model.mistaken()); break;
                case 27: due("let", real.let(), model.let()); break;
                case 28: act(p); break;
                default: paneOf(p); break;
            }
        }

        void newPane() {
            int kind = below(7);
            int room = below(10);
            int a = below(10);
            due("pane " + kind + " " + room + " " + a, real.pane(kind, room, a), model.pane(kind, room, a));
        }

        void weather() {
            int what = below(3);
            int v = what == 0 ? below(41) : below(10);
            due("ask " + what + " " + v, real.ask(what, v), model.ask(what, v));
        }

        void roomOf(int p) {
            int v = below(10);
            due("room " + p + " " + v, real.room(p, v), model.room(p, v));
        }

        /** Mostly tells a shape that there is, as others are never shown. */
        void couldShow(int p, int h, int v, int n) {
            int shape = model.shapeOr(p, n, h, v);
            due("could " + p + " " + shape + " " + h, real.could(p, shape, h), model.could(p, shape, h));
        }

        void act(int p) {
            int act = below(3);
            int x = random.nextInt(4) == 0 ? random.nextInt() : random.nextInt(100) - 50;
            due("act " + p + " " + act + " " + x, real.act(p, act, x), model.act(p, act, x));
            due("status 8", real.status(8), model.status(8));
            int i = random.nextInt(12) - 1;
            due("trace " + i, real.trace(i), model.trace(i));
        }

        void paneOf(int p) {
            int what = below(5);
            due("paneOf " + p + " " + what, real.paneOf(p, what), model.paneOf(p, what));
        }

        void oneOfTruth(int which) {
            int p = aPane();
            int c = below(16);
            int n = random.nextInt(3) == 0 ? below(25) : below(5);
            int what = below(17);
            int s = random.nextInt(20);
            switch (which) {
                case 0: case 1: due("night", real.night(), model.night()); break;
                case 2: case 3: due("hours " + n, real.hours(n), model.hours(n)); break;
                case 4: case 5: due("truth " + p + " " + what, real.truth(p, what), model.truth(p, what)); break;
                case 6: due("truth " + p + " 16", real.truth(p, 16), model.truth(p, 16)); break;
                case 7: due("readOf " + p, real.readOf(p), model.readOf(p)); break;
                case 8: due("breath " + p + " " + c, real.breath(p, c), model.breath(p, c)); break;
                case 9: if (s < 8) {
                    due("scratch " + p + " " + c, real.scratch(p, c), model.scratch(p, c));
                } break;
                case 10: due("winter " + n, real.winter(n), model.winter(n)); break;
                case 11: seed(); break;
                case 12: if (s < 10) {
                    due("image", real.image(), model.image());
                } break;
                case 13: if (s < 10) {
                    due("restore", real.restore(), model.restore());
                } break;
                default: int of = random.nextInt(22) - 2;
                    due("status " + of, real.status(of), model.status(of)); break;
            }
        }

        void seed() {
            int v = random.nextInt(3) == 0 ? random.nextInt() : random.nextInt(100);
            due("seed " + v, real.seed(v), model.seed(v));
        }

        void oneOfShelves(int which) {
            int s = aShelf();
            int q = aShelf();
            int p = letterOrNone();
            int i = below(5);
            int kind = below(7);
            switch (which) {
                case 0: case 1: newRow(s); break;
                case 2: case 3: put(s, i); break;
                case 4: case 5: copyRow(s, q); break;
                case 6: due("element " + s + " " + i, real.element(s, i), model.element(s, i)); break;
                case 7: due("show " + s + " " + p, real.show(s, p), model.show(s, p)); break;
                case 8: due("holds " + s, real.holds(s), model.holds(s)); break;
                case 9: due("says " + s + " " + kind, real.says(s, kind), model.says(s, kind)); break;
                case 10: case 11: if (log.size() > 40) {
                    aPress();
                } break;
                case 12: due("fault", real.fault(), model.fault()); break;
                default: aWord(); break;
            }
        }

        void newRow(int s) {
            int sort = below(4);
            int n = below(8);
            due("row " + s + " " + sort + " " + n, real.row(s, sort, n), model.row(s, sort, n));
        }

        void put(int s, int i) {
            long v = random.nextInt(2) == 0 ? random.nextLong() : random.nextInt(400) - 100;
            due("set " + s + " " + i + " " + v, real.set(s, i, v), model.set(s, i, v));
        }

        void copyRow(int s, int q) {
            int to = random.nextInt(2) == 0 ? s : q;
            int i = below(4);
            int j = below(4);
            int n = below(5);
            due("copy " + s + " " + to + " " + i + " " + j + " " + n,
                    real.copy(s, to, i, j, n), model.copy(s, to, i, j, n));
            int at = random.nextInt(8);
            due("element " + to + " " + at, real.element(to, at), model.element(to, at));
        }

        void aWord() {
            int s = random.nextInt(8);
            int n = random.nextInt(Math.min(model.panes.size(), 8) + 1) + (rarely() ? 1 : 0);
            int sort = random.nextInt(4);
            due("row " + s + " " + sort + " " + n, real.row(s, sort, n), model.row(s, sort, n));
            for (int i = 0; i < n; i++) {
                long v = random.nextInt(40) == 0 ? 8 : random.nextInt(Math.max(model.forms.size(), 1));
                v += sort == 3 && random.nextInt(3) == 0 ? 1L << 40 : 0;
                due("set " + s + " " + i + " " + v, real.set(s, i, v), model.set(s, i, v));
            }
            int h = anHour();
            int most = rarely() ? wild() : n;
            due("prints " + s + " " + most + " " + h + " -1",
                    real.prints(s, most, h, -1), model.prints(s, most, h, -1));
            for (int i = 0; i <= n; i++) {
                due("prints " + s + " " + n + " " + h + " " + i,
                        real.prints(s, n, h, i), model.prints(s, n, h, i));
            }
        }

        void aPress() {
            String text = pressText();
            int s = random.nextInt(8);
            int sort = random.nextInt(4);
            due("row " + s + " " + sort, real.row(s, sort, text.length()), model.row(s, sort, text.length()));
            for (int i = 0; i < text.length(); i++) {
                long v = text.charAt(i) + (sort == 3 && rarely() ? 1L << 32 : 0);
                due("set " + s + " " + i + " '" + text.charAt(i) + "'", real.set(s, i, v), model.set(s, i, v));
            }
            due("press \"" + text + "\"", real.press(s), model.press(s));
            due("fault", real.fault(), model.fault());
            for (int what = 0; what < 5; what++) {
                due("status " + what, real.status(what), model.status(what));
            }
        }

        String pressText() {
            StringBuilder text = new StringBuilder();
            int letters = model.forms.size();
            int panes = model.panes.size();
            for (int items = random.nextInt(4); items >= 0; items--) {
                switch (random.nextInt(6)) {
                    case 0: text.append("form ").append(number(65536)); letters++; break;
                    case 1: text.append("pane ").append(number(7)).append(' ').append(number(10))
                            .append(' ').append(number(10)); panes++; break;
                    case 2: text.append("hang ").append(number(panes)).append(' ').append(number(letters)); break;
                    case 3: text.append("cold ").append(number(41)); break;
                    case 4: text.append("wet ").append(number(10)); break;
                    default: text.append("out ").append(number(10)); break;
                }
                text.append(items > 0 ? ";" : "");
            }
            spoil(text);
            return text.toString();
        }

        String number(int n) {
            int v = random.nextInt(30) == 0 ? random.nextInt(100000) : random.nextInt(Math.max(n, 1));
            v = random.nextInt(20) == 0 ? n : v;
            String digits = Integer.toString(v);
            return random.nextInt(5) == 0 ? "000000".substring(random.nextInt(6)) + digits : digits;
        }

        void spoil(StringBuilder text) {
            String signs = " ;0159formpanehgcldwutx";
            int at = random.nextInt(text.length());
            char sign = signs.charAt(random.nextInt(signs.length()));
            switch (random.nextInt(10)) {
                case 0: text.setCharAt(at, sign); break;
                case 1: text.insert(at, sign); break;
                case 2: text.deleteCharAt(at); break;
                case 3: text.setLength(at); break;
                case 4: text.append(sign); break;
                default: break;
            }
        }
    }

    /** A kind as a class: acts by Java's own super. */
    private static class Plain implements Cloneable {
        int kind;
        int m;
        int room;
        int k;
        int hung = -1;
        boolean[] scratched = new boolean[16];
        int[][] ice = new int[4][4];
        List<Integer> ran = new ArrayList<>();

        int freezes(int x) { ran.add(10); return x + m; }

        int melts(int x) { ran.add(11); return freezes(x) * 2; }

        int shows(int x) { ran.add(12); return melts(x) ^ freezes(x - k); }

        Plain twin() {
            try {
                Plain twin = (Plain) clone();
                twin.scratched = scratched.clone();
                twin.ice = new int[4][];
                for (int r = 0; r < 4; r++) {
                    twin.ice[r] = ice[r].clone();
                }
                return twin;
            } catch (CloneNotSupportedException e) {
                throw new IllegalStateException(e);
            }
        }
    }

    private static class North extends Plain {
        @Override int freezes(int x) { ran.add(20); return super.freezes(x) + k; }
    }

    private static class Thick extends Plain {
        @Override int melts(int x) { ran.add(30); return super.melts(x) * 3; }
    }

    private static class Stoved extends Thick {
        @Override int melts(int x) { ran.add(40); return super.melts(x + 1); }
    }

    private static class Sunny extends Plain {
        @Override int shows(int x) { ran.add(50); return -super.shows(x); }

        @Override int freezes(int x) { ran.add(51); return super.freezes(x) - m; }
    }

    private static class Lace extends North {
        @Override int shows(int x) { ran.add(60); return super.shows(x) ^ 5; }
    }

    private static class Smoked extends Stoved {
        @Override int freezes(int x) { ran.add(70); return super.freezes(x) * 2; }

        @Override int melts(int x) { ran.add(71); return super.melts(x - k); }
    }

    /** The document, told once more. */
    private static final class Model {
        List<Integer> forms = new ArrayList<>();
        List<Plain> panes = new ArrayList<>();
        int[] weather = {20, 5, 1};
        int hour = 24;
        int editions = 0;
        int seed = 1;
        List<Integer> imageForms;
        List<Plain> imagePanes;
        int[] imageNumbers;
        final Object[] shelves = new Object[8];
        final int[] sorts = new int[8];
        final int[] refused = new int[8];
        List<Integer> ran = new ArrayList<>();
        int fault = -1;

        int refuse(int number) {
            refused[-number]++;
            return number;
        }

        int refuse(int number, int told) {
            refused[-number]++;
            return told;
        }

        boolean noShelf(int s) { return s < 0 || s > 7; }

        boolean noPane(int p) { return p < 0 || p >= panes.size(); }

        boolean noLetter(int l) { return l < 0 || l >= forms.size(); }

        boolean outside(int v, int least, int most) { return v < least || v > most; }

        // shelves: a long[] is a row, an Integer a pane
        int row(int s, int sort, int n) {
            if (noShelf(s)) { return refuse(-1); }
            if (n < 0) { return refuse(-4); }
            if (outside(sort, 0, 3)) { return refuse(-6); }
            if (n > 160) { return refuse(-7); }
            shelves[s] = new long[n];
            sorts[s] = sort;
            return 1;
        }

        int wantRow(int s) {
            return noShelf(s) ? -1 : shelves[s] instanceof Integer ? -2 : shelves[s] == null ? -3 : 0;
        }

        int set(int s, int i, long v) {
            if (wantRow(s) != 0) { return refuse(wantRow(s)); }
            long[] row = (long[]) shelves[s];
            if (outside(i, 0, row.length - 1)) { return refuse(-5); }
            int drop = new int[] {56, 48, 32, 0}[sorts[s]];
            row[i] = v << drop >> drop;
            return 1;
        }

        int copy(int p, int q, int i, int j, int n) {
            int a = wantRow(p);
            int b = wantRow(q);
            if (a == -1 || b == -1) { return refuse(-1); }
            if (a == -2 || b == -2) { return refuse(-2); }
            if (a == 0 && b == 0 && sorts[p] != sorts[q]) { return refuse(-2); }
            if (a == -3 || b == -3) { return refuse(-3); }
            if (n < 0) { return refuse(-4); }
            long[] from = ((long[]) shelves[p]).clone();
            long[] to = (long[]) shelves[q];
            if (i < 0 || j < 0 || (long) i + n > from.length || (long) j + n > to.length) { return refuse(-5); }
            for (int k = 0; k < n; k++) {
                to[j + k] = from[i + k];
            }
            return 1;
        }

        long element(int s, int i) {
            if (wantRow(s) != 0) { return 0; }
            long[] row = (long[]) shelves[s];
            return outside(i, 0, row.length - 1) ? 0 : row[i];
        }

        int show(int s, int p) {
            if (noShelf(s) || p != -1 && noPane(p)) { return refuse(-1); }
            shelves[s] = p == -1 ? null : Integer.valueOf(p);
            return p == -1 ? 0 : 1;
        }

        int holds(int s) {
            if (noShelf(s) || shelves[s] == null) { return -1; }
            return shelves[s] instanceof Integer ? (Integer) shelves[s] : 100 + sorts[s];
        }

        int says(int s, int kind) {
            if (noShelf(s) || outside(kind, 0, 6)) { return refuse(-1); }
            if (shelves[s] instanceof long[]) { return refuse(-2); }
            if (shelves[s] == null) { return refuse(-3); }
            int p = (Integer) shelves[s];
            Plain pane = panes.get(p);
            boolean is = new boolean[] {true, pane instanceof North, pane instanceof Thick,
                pane instanceof Stoved, pane instanceof Sunny, pane instanceof Lace,
                pane instanceof Smoked}[kind];
            if (!is) { return refuse(-2); }
            return new int[] {sharp(pane, weather[0]), pane.k, Math.max(weather[0] - pane.k, 0), pane.room,
                meltOf(pane, 23), pane.k % 4, pane.room}[kind];
        }

        // the street
        int form(int cells) {
            if (outside(cells, 0, 65535)) { return refuse(-6); }
            if (forms.size() == 8) { return refuse(-7); }
            forms.add(cells);
            return forms.size() - 1;
        }

        int formOf(int l) { return noLetter(l) ? refuse(-1) : forms.get(l); }

        int pane(int kind, int room, int a) {
            if (outside(kind, 0, 6)) { return refuse(-1); }
            if (outside(room, 0, 9) || outside(a, 0, 9)) { return refuse(-6); }
            if (panes.size() == 8) { return refuse(-7); }
            Plain pane = kind == 0 ? new Plain() : kind == 1 ? new North() : kind == 2 ? new Thick()
                : kind == 3 ? new Stoved() : kind == 4 ? new Sunny() : kind == 5 ? new Lace() : new Smoked();
            pane.kind = kind;
            pane.m = panes.size();
            pane.room = room;
            pane.k = a;
            panes.add(pane);
            return pane.m;
        }

        int paneOf(int p, int what) {
            if (noPane(p) || outside(what, 0, 4)) { return refuse(-5); }
            Plain pane = panes.get(p);
            int bits = 0;
            for (int c = 0; c < 16; c++) {
                bits += pane.scratched[c] ? 1 << c : 0;
            }
            return new int[] {pane.kind, pane.room, pane.k, sharp(pane, weather[0]), bits}[what];
        }

        int hang(int p, int l) {
            if (noPane(p) || l != -1 && noLetter(l)) { return refuse(-1); }
            panes.get(p).hung = l;
            return l == -1 ? 0 : 1;
        }

        int hangs(int p) { return noPane(p) ? refuse(-1, -11) : panes.get(p).hung; }

        int ask(int what, int v) {
            if (outside(what, 0, 2) || outside(v, 0, what == 0 ? 40 : 9)) { return refuse(-6); }
            int was = weather[what];
            weather[what] = v;
            return was;
        }

        int room(int p, int v) {
            if (noPane(p)) { return refuse(-1); }
            if (outside(v, 0, 9)) { return refuse(-6); }
            int was = panes.get(p).room;
            panes.get(p).room = v;
            return was;
        }

        // presses
        int press(int s) {
            if (wantRow(s) != 0) { return refuse(wantRow(s)); }
            StringBuilder text = new StringBuilder();
            for (long v : (long[]) shelves[s]) {
                text.append((int) v < 1 || (int) v > 126 ? '\u0001' : (char) v);
            }
            List<int[]> items = new ArrayList<>();
            fault = faultOf(text.toString(), items);
            if (fault != -1) { return refuse(-6); }
            for (int[] item : items) {
                switch (item[0]) {
                    case 0: form(item[1]); break;
                    case 1: pane(item[1], item[2], item[3]); break;
                    case 2: hang(item[1], item[2]); break;
                    default: ask(item[0] - 3, item[1]); break;
                }
            }
            return items.size();
        }

        static final String[] WORDS = {"form", "pane", "hang", "cold", "wet", "out"};
        static final int[] NUMBERS = {1, 3, 2, 1, 1, 1};
        static final Pattern DIGITS = Pattern.compile("[0-9]{1,5}");

        int faultOf(String text, List<int[]> items) {
            int at = 0;
            int letters = forms.size();
            int count = panes.size();
            while (true) {
                int word = -1;
                int common = 0;
                for (int w = 0; w < 6; w++) {
                    int same = 0;
                    while (same < WORDS[w].length() && text.startsWith(WORDS[w].substring(0, same + 1), at)) {
                        same++;
                    }
                    common = Math.max(common, same);
                    word = same == WORDS[w].length() ? w : word;
                }
                if (word == -1) { return at + common; }
                if (word == 0 && letters == 8 || word == 1 && count == 8) { return at; }
                at += WORDS[word].length();
                int[][] most = {{65535}, {6, 9, 9}, {count - 1, letters - 1}, {40}, {9}, {9}};
                int[] item = new int[4];
                item[0] = word;
                for (int i = 0; i < NUMBERS[word]; i++) {
                    if (!text.startsWith(" ", at)) { return at; }
                    at++;
                    Matcher matcher = DIGITS.matcher(text).region(at, text.length());
                    if (!matcher.lookingAt()) { return at; }
                    item[i + 1] = Integer.parseInt(matcher.group());
                    if (item[i + 1] > most[word][i]) { return at; }
                    at = matcher.end();
                }
                items.add(item);
                letters += word == 0 ? 1 : 0;
                count += word == 1 ? 1 : 0;
                if (at == text.length()) { return -1; }
                if (text.charAt(at) != ';') { return at; }
                at++;
            }
        }

        int fault() { return fault; }

        // frost
        int sharp(Plain pane, int cold) {
            int counted = pane instanceof Thick ? Math.max(0, cold - pane.k) : cold;
            int sharp = counted * weather[1] / 20;
            return pane instanceof North && sharp > 0 ? sharp + pane.k : sharp;
        }

        int meltOf(Plain pane, int h) {
            int melt = weather[2] + (pane instanceof Stoved ? pane.room : pane.room / 3);
            return pane instanceof Sunny && h >= pane.k ? melt + 3 : melt;
        }

        int[][] frozen(Plain pane, int letter, int cold) {
            boolean[][] in = new boolean[4][4];
            for (int r = 0; r < 4; r++) {
                for (int c = 0; c < 4; c++) {
                    in[r][c] = letter >= 0 && (forms.get(letter) & 1 << 4 * r + c) != 0;
                    if (pane instanceof Lace && r == pane.k % 4) { in[r][c] = true; }
                    if (pane instanceof Smoked && r == 3) { in[r][c] = false; }
                }
            }
            int whole = Math.min(20, sharp(pane, cold));
            int[][] ice = new int[4][4];
            for (int r = 0; r < 4; r++) {
                for (int c = 0; c < 4; c++) {
                    int near = 0;
                    near += r > 0 && in[r - 1][c] ? 1 : 0;
                    near += r < 3 && in[r + 1][c] ? 1 : 0;
                    near += c > 0 && in[r][c - 1] ? 1 : 0;
                    near += c < 3 && in[r][c + 1] ? 1 : 0;
                    boolean half = weather[1] >= 6 && near >= 3 && !(pane instanceof Smoked && r == 3);
                    ice[r][c] = in[r][c] ? whole : half ? whole / 2 : 0;
                    if (pane.scratched[4 * r + c]) { ice[r][c] = 0; }
                }
            }
            return ice;
        }

        int[][] melted(int[][] ice, int melt) {
            int[][] after = new int[4][4];
            for (int r = 0; r < 4; r++) {
                for (int c = 0; c < 4; c++) {
                    boolean open = c == 0 || c == 3 || ice[r][c - 1] == 0 || ice[r][c + 1] == 0;
                    int loss = melt == 0 ? 0 : open ? melt + 1 : melt;
                    after[r][c] = Math.max(0, ice[r][c] - loss);
                }
            }
            return after;
        }

        int bits(int[][] ice) {
            int bits = 0;
            for (int c = 0; c < 16; c++) {
                bits |= ice[c / 4][c % 4] > 0 ? 1 << c : 0;
            }
            return bits;
        }

        int[][] iceAt(Plain pane, int letter, int h, int cold) {
            int[][] ice = frozen(pane, letter, cold);
            for (int hour = 0; hour < h; hour++) {
                ice = melted(ice, meltOf(pane, hour));
            }
            return ice;
        }

        int read(int shape) {
            int[] apart = new int[forms.size()];
            for (int l = 0; l < apart.length; l++) {
                apart[l] = Integer.bitCount(forms.get(l) ^ shape);
            }
            int[] sorted = apart.clone();
            Arrays.sort(sorted);
            if (sorted.length == 0 || sorted[0] > 4) { return -1; }
            if (sorted.length > 1 && sorted[1] == sorted[0]) { return -1; }
            for (int l = 0; l < apart.length; l++) {
                if (apart[l] == sorted[0]) { return l; }
            }
            return -1;
        }

        int readAt(Plain pane, int letter, int h) { return read(bits(iceAt(pane, letter, h, weather[0]))); }

        int melt(int p, int h) {
            if (noPane(p)) { return refuse(-1); }
            return outside(h, 0, 23) ? refuse(-6) : meltOf(panes.get(p), h);
        }

        int ice(int p, int l, int h, int cell) {
            if (noPane(p) || l != -1 && noLetter(l)) { return refuse(-1); }
            if (outside(cell, 0, 15)) { return refuse(-5); }
            if (outside(h, 0, 24)) { return refuse(-6); }
            return iceAt(panes.get(p), l, h, weather[0])[cell / 4][cell % 4];
        }

        int shape(int p, int l, int h) {
            if (noPane(p) || l != -1 && noLetter(l)) { return refuse(-1); }
            if (outside(h, 0, 24)) { return refuse(-6); }
            return bits(iceAt(panes.get(p), l, h, weather[0]));
        }

        int shapeOr(int p, int l, int h, int v) {
            if (noPane(p) || l != -1 && noLetter(l) || outside(h, 0, 24)) { return v; }
            return bits(iceAt(panes.get(p), l, h, weather[0]));
        }

        int reads(int shape) { return outside(shape, 0, 65535) ? refuse(-6, -16) : read(shape); }

        int readsAs(int p, int l, int h) {
            if (noPane(p) || l != -1 && noLetter(l)) { return refuse(-1, -11); }
            return outside(h, 0, 24) ? refuse(-6, -16) : readAt(panes.get(p), l, h);
        }

        int lasts(int p, int l) {
            if (noPane(p) || noLetter(l)) { return refuse(-1, -11); }
            int h = 0;
            while (h <= 24 && readAt(panes.get(p), l, h) == l) {
                h++;
            }
            return h - 1;
        }

        int page(int h) {
            if (outside(h, 0, 24)) { return refuse(-6); }
            int bits = 0;
            for (Plain pane : panes) {
                bits += pane.hung >= 0 && readAt(pane, pane.hung, h) == pane.hung ? 1 << pane.m : 0;
            }
            return bits;
        }

        // what comes of it
        int bestRight;
        int[] bestRow;

        int prints(int s, int n, int h, int i) {
            if (wantRow(s) != 0) { return refuse(wantRow(s)); }
            if (n < 0) { return refuse(-4); }
            long[] row = (long[]) shelves[s];
            if (n > row.length || i != -1 && outside(i, 0, n - 1)) { return refuse(-5); }
            if (outside(h, 0, 24)) { return refuse(-6); }
            int[] word = new int[n];
            for (int k = 0; k < n; k++) {
                word[k] = (int) row[k];
                if (noLetter(word[k])) { return refuse(-6); }
            }
            if (n > panes.size()) { return refuse(-7); }
            boolean[][] right = new boolean[panes.size()][forms.size()];
            for (int p = 0; p < right.length; p++) {
                for (int l : word) {
                    right[p][l] = readAt(panes.get(p), l, h) == l;
                }
            }
            bestRight = -1;
            choose(word, right, new int[n], 0, 0, 0);
            return i == -1 ? bestRight : bestRow[i];
        }

        void choose(int[] word, boolean[][] right, int[] row, int chosen, int from, int got) {
            if (chosen == word.length) {
                if (got > bestRight) {
                    bestRight = got;
                    bestRow = row.clone();
                }
                return;
            }
            for (int p = from; p < right.length; p++) {
                row[chosen] = p;
                choose(word, right, row, chosen + 1, p + 1, got + (right[p][word[chosen]] ? 1 : 0));
            }
        }

        int becomes(int l) {
            if (noLetter(l)) { return refuse(-1); }
            int bits = 0;
            for (Plain pane : panes) {
                for (int h = 0; h <= 24; h++) {
                    int read = readAt(pane, l, h);
                    bits |= read >= 0 && read != l ? 1 << read : 0;
                }
            }
            return bits;
        }

        int turns(int p, int l, int other) {
            if (noPane(p) || noLetter(l) || noLetter(other)) { return refuse(-1, -11); }
            for (int h = 0; h <= 24; h++) {
                if (readAt(panes.get(p), l, h) == other) { return h; }
            }
            return -1;
        }

        int could(int p, int shape, int h) {
            if (noPane(p)) { return refuse(-1); }
            if (outside(shape, 0, 65535) || outside(h, 0, 24)) { return refuse(-6); }
            int could = 0;
            for (int l = -1; l < forms.size(); l++) {
                if (bits(iceAt(panes.get(p), l, h, weather[0])) == shape) { could |= l < 0 ? 256 : 1 << l; }
            }
            return could;
        }

        int apart(int l, int o) { return Integer.bitCount(forms.get(l) ^ forms.get(o)); }

        int unlike(int l, int o) { return noLetter(l) || noLetter(o) ? refuse(-1) : apart(l, o); }

        int closest() {
            if (forms.size() < 2) { return refuse(-5); }
            for (int d = 0; d <= 16; d++) {
                for (int l = 0; l < forms.size(); l++) {
                    for (int o = l + 1; o < forms.size(); o++) {
                        if (apart(l, o) == d) { return 10 * l + o; }
                    }
                }
            }
            return -99;
        }

        int mend(int l) {
            if (noLetter(l)) { return refuse(-1); }
            if (forms.size() == 1) { return refuse(-5); }
            int[] least = new int[16];
            for (int c = 0; c < 16; c++) {
                least[c] = 99;
                for (int o = 0; o < forms.size(); o++) {
                    int apart = Integer.bitCount(forms.get(l) ^ (1 << c) ^ forms.get(o));
                    least[c] = o == l ? least[c] : Math.min(least[c], apart);
                }
            }
            int best = 15;
            for (int c = 15; c >= 0; c--) {
                best = least[c] >= least[best] ? c : best;
            }
            return best;
        }

        int stove(int p, int l, int h) {
            if (noPane(p) || noLetter(l)) { return refuse(-1, -11); }
            if (outside(h, 0, 24)) { return refuse(-6, -16); }
            int best = -1;
            for (int room = 0; room <= 9; room++) {
                Plain twin = panes.get(p).twin();
                twin.room = room;
                best = readAt(twin, l, h) == l ? room : best;
            }
            return best;
        }

        int chill(int p, int l, int h) {
            if (noPane(p) || noLetter(l)) { return refuse(-1, -11); }
            if (outside(h, 0, 24)) { return refuse(-6, -16); }
            int best = -1;
            for (int cold = 40; cold >= 0; cold--) {
                best = read(bits(iceAt(panes.get(p), l, h, cold))) == l ? cold : best;
            }
            return best;
        }

        int mistaken() {
            int bits = 0;
            for (Plain pane : panes) {
                bits += pane.hung < 0 && readAt(pane, -1, 0) >= 0 ? 1 << pane.m : 0;
            }
            return bits;
        }

        int let() {
            int[] worth = new int[panes.size()];
            for (Plain pane : panes) {
                for (int h = 0; h <= 24 && pane.hung >= 0; h++) {
                    worth[pane.m] += readAt(pane, pane.hung, h) == pane.hung ? 1 : 0;
                }
            }
            int[] known = new int[1 << worth.length];
            for (int left = 1; left < known.length; left++) {
                known[left] = Integer.MIN_VALUE;
                for (int p = 0; p < worth.length; p++) {
                    if ((left & 1 << p) != 0) {
                        known[left] = Math.max(known[left], worth[p] - known[left & ~(1 << p)]);
                    }
                }
            }
            return known[known.length - 1];
        }

        // in truth
        int night() {
            int bits = 0;
            for (Plain pane : panes) {
                pane.ice = frozen(pane, pane.hung, weather[0]);
                bits += pane.hung >= 0 && read(bits(pane.ice)) == pane.hung ? 1 << pane.m : 0;
            }
            hour = 0;
            editions += bits != 0 ? 1 : 0;
            return bits;
        }

        int hours(int n) {
            if (outside(n, 1, 24)) { return refuse(-6); }
            if (hour + n > 24) { return refuse(-7); }
            for (int i = 0; i < n; i++) {
                for (Plain pane : panes) {
                    pane.ice = melted(pane.ice, meltOf(pane, hour));
                }
                hour++;
            }
            return hour;
        }

        int truth(int p, int what) {
            if (noPane(p)) { return refuse(-1); }
            if (outside(what, 0, 16)) { return refuse(-5); }
            int[][] ice = panes.get(p).ice;
            return what == 16 ? bits(ice) : ice[what / 4][what % 4];
        }

        int readOf(int p) { return noPane(p) ? refuse(-1, -11) : read(bits(panes.get(p).ice)); }

        int breath(int p, int cell) {
            if (noPane(p)) { return refuse(-1); }
            if (outside(cell, 0, 15)) { return refuse(-5); }
            int lost = 0;
            int[][] ice = panes.get(p).ice;
            for (int r = 0; r < 4; r++) {
                for (int c = 0; c < 4; c++) {
                    if (Math.abs(r - cell / 4) + Math.abs(c - cell % 4) <= 1) {
                        lost += ice[r][c] > 0 ? 1 : 0;
                        ice[r][c] = 0;
                    }
                }
            }
            return lost;
        }

        int scratch(int p, int cell) {
            if (noPane(p)) { return refuse(-1); }
            if (outside(cell, 0, 15)) { return refuse(-5); }
            Plain pane = panes.get(p);
            if (pane.scratched[cell]) { return refuse(-6); }
            pane.scratched[cell] = true;
            int had = pane.ice[cell / 4][cell % 4];
            pane.ice[cell / 4][cell % 4] = 0;
            return had;
        }

        int draw(int n) {
            seed = (int) (seed * 1103515245L + 12345L);
            return (int) ((seed & 0xFFFFFFFFL) / 65536 % n);
        }

        int winter(int n) {
            if (outside(n, 1, 40)) { return refuse(-6); }
            int before = editions;
            for (int i = 0; i < n; i++) {
                weather[0] = draw(41);
                weather[1] = draw(10);
                night();
            }
            return editions - before;
        }

        int seed(int v) {
            int was = seed;
            seed = v;
            return was;
        }

        // acts, image, status
        int act(int p, int act, int x) {
            ran = new ArrayList<>();
            if (noPane(p) || outside(act, 0, 2)) { return 0; }
            Plain pane = panes.get(p).twin();
            pane.ran = ran;
            return act == 0 ? pane.freezes(x) : act == 1 ? pane.melts(x) : pane.shows(x);
        }

        int trace(int i) { return outside(i, 0, Math.min(ran.size(), 20) - 1) ? -1 : ran.get(i); }

        List<Plain> twins(List<Plain> of) {
            List<Plain> twins = new ArrayList<>();
            for (Plain pane : of) {
                twins.add(pane.twin());
            }
            return twins;
        }

        int image() {
            imageForms = new ArrayList<>(forms);
            imagePanes = twins(panes);
            imageNumbers = new int[] {weather[0], weather[1], weather[2], hour, editions, seed};
            return panes.size();
        }

        int restore() {
            if (imageForms == null) { return refuse(-6); }
            forms = new ArrayList<>(imageForms);
            panes = twins(imagePanes);
            weather = Arrays.copyOf(imageNumbers, 3);
            hour = imageNumbers[3];
            editions = imageNumbers[4];
            seed = imageNumbers[5];
            for (int s = 0; s < 8; s++) {
                if (shelves[s] instanceof Integer && noPane((Integer) shelves[s])) { shelves[s] = null; }
            }
            return panes.size();
        }

        int status(int what) {
            int[] told = {forms.size(), panes.size(), weather[0], weather[1], weather[2], hour, editions,
                seed, ran.size()};
            if (!outside(what, 0, 8)) { return told[what]; }
            return outside(what, 11, 17) ? -1 : refused[what - 10];
        }
    }
}
