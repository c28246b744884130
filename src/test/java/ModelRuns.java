import java.util.ArrayList;
import java.util.Arrays;
import java.util.Collections;
import java.util.List;
import java.util.Random;
import java.math.BigInteger;

/**
 * Long runs of calls, by fixed seeds, on a CountyTrick and on a model of the document that is written
 * apart from it: kinds as classes under one another, the text by a list of tokens, plans by trying all.
 */
public final class ModelRuns {
    private static int wrong = 0;

    public static void main(String[] args) {
        int runs = 700;
        for (int run = 0; run < runs && wrong < 20; run++) {
            new Run(run).go();
        }
        System.out.println(wrong == 0 ? runs + " runs answer as the model" : wrong + " answers are not as the model's");
        if (wrong != 0) {
            System.exit(1);
        }
    }

    // ---- kinds

    static class PlainShow {
        int pull(int l, int f, int t) {
            int p = l + l - f;
            return p < 0 ? 0 : p;
        }
    }

    static class BandShow extends PlainShow {
        @Override int pull(int l, int f, int t) {
            return super.pull(l, f, t) + (t % 2 == 0 ? 3 : 0);
        }
    }

    static class WeddingShow extends PlainShow {
        @Override int pull(int l, int f, int t) {
            return f > 5 ? 0 : super.pull(l, f, t);
        }
    }

    static class FireShow extends BandShow {
        @Override int pull(int l, int f, int t) {
            int p = super.pull(l, f, t) * 2;
            return p > 30 ? 30 : p;
        }
    }

    static class LanternShow extends FireShow {
        @Override int pull(int l, int f, int t) {
            return t < 6 ? 0 : super.pull(l, f, t);
        }
    }

    static class LaughShow extends WeddingShow {
        @Override int pull(int l, int f, int t) {
            int p = super.pull(l, f, t);
            return p == 0 ? 0 : p + 1;
        }
    }

    static class PlainWatcher {
        int notes(int f) {
            return f >= 6 ? 0 : 12 - f - f;
        }

        int drawn(int p) {
            return p;
        }
    }

    static class ChildWatcher extends PlainWatcher {
        @Override int drawn(int p) {
            return 2 * super.drawn(p);
        }
    }

    static class StiffWatcher extends PlainWatcher {
        @Override int drawn(int p) {
            return 0;
        }
    }

    static class SurveyorWatcher extends PlainWatcher {
        @Override int notes(int f) {
            return super.notes(f) + 4;
        }
    }

    static class TaughtWatcher extends ChildWatcher {
        @Override int drawn(int p) {
            return super.drawn(p) + 2;
        }
    }

    static class OldWatcher extends TaughtWatcher {
        @Override int notes(int f) {
            int n = super.notes(f);
            return n / 2 + n % 2;
        }

        @Override int drawn(int p) {
            return super.drawn(p) / 2;
        }
    }

    private static final PlainShow[] SHOWS = {
        new PlainShow(), new BandShow(), new WeddingShow(), new FireShow(), new LanternShow(), new LaughShow()
    };
    private static final PlainWatcher[] WATCHERS = {
        new PlainWatcher(), new ChildWatcher(), new StiffWatcher(), new SurveyorWatcher(), new TaughtWatcher(), new OldWatcher()
    };

    static int far(int a, int b) {
        return Math.abs(a / 6 - b / 6) + Math.abs(a % 6 - b % 6);
    }

    // ---- the model

    /** What an image keeps; every row of numbers is replaced, never changed in place. */
    static final class State {
        int step, done;
        List<int[]> shows = new ArrayList<>();     // kind, cell, loud, on
        List<int[]> watchers = new ArrayList<>();  // kind, cell, knows
        List<int[]> saws = new ArrayList<>();
        List<int[]> notes = new ArrayList<>();
        List<int[]> marks = new ArrayList<>();
        List<State> past = new ArrayList<>();

        State copy() {
            State s = new State();
            s.step = step;
            s.done = done;
            s.shows.addAll(shows);
            s.watchers.addAll(watchers);
            s.saws.addAll(saws);
            s.notes.addAll(notes);
            s.marks.addAll(marks);
            s.past.addAll(past);
            return s;
        }

        int greatestAt(int cell, long t, int mask) {
            int most = 0;
            for (int s = 0; s < shows.size(); s++) {
                if ((mask >> s & 1) == 1) {
                    most = Math.max(most, pullOf(shows.get(s), cell, t));
                }
            }
            return most;
        }

        int on() {
            int mask = 0;
            for (int s = 0; s < shows.size(); s++) {
                mask += shows.get(s)[3] << s;
            }
            return mask;
        }

        boolean sees(int[] watcher, int cell, long t, int mask) {
            PlainWatcher kind = WATCHERS[watcher[0]];
            return kind.notes(far(watcher[1], cell)) > kind.drawn(greatestAt(watcher[1], t, mask));
        }

        int who(int cell, long t, int mask) {
            int bits = 0;
            for (int w = 0; w < watchers.size(); w++) {
                bits |= sees(watchers.get(w), cell, t, mask) ? 1 << w : 0;
            }
            return bits;
        }

        int who(int cell, long t) {
            return who(cell, t, on());
        }

        void doing(int cell) {
            int bits = who(cell, step);
            for (int w = 0; w < watchers.size(); w++) {
                int[] was = watchers.get(w);
                watchers.set(w, new int[] {was[0], was[1], was[2] + (bits >> w & 1)});
            }
            done++;
            step = Math.min(9999, step + 1);
        }
    }

    static int pullOf(int[] show, int cell, long t) {
        return SHOWS[show[0]].pull(show[2], far(show[1], cell), (int) (t % 12));
    }

    static boolean in(long n, long least, long most) {
        return least <= n && n <= most;
    }

    static final class Model {
        State now = new State();
        State[] images = new State[2];
        String text = "";
        long above = 0, below = 1;
        int[] status = new int[3];

        int bad() {
            status[0]++;
            return -2;
        }

        int no() {
            status[1]++;
            return -3;
        }

        int full() {
            status[2]++;
            return -4;
        }

        boolean hasShow(int s) {
            return in(s, 0, now.shows.size() - 1);
        }

        boolean hasWatcher(int w) {
            return in(w, 0, now.watchers.size() - 1);
        }

        void remember() {
            State was = now.copy();
            was.past.clear();
            now.past.add(was);
            while (now.past.size() > 8) {
                now.past.remove(0);
            }
        }

        int land() {
            int were = now.watchers.size();
            now = new State();
            return were;
        }

        int show(int kind, int cell, int loud) {
            if (!in(kind, 0, 5) || !in(cell, 0, 29) || !in(loud, 1, 9)) return bad();
            if (now.shows.size() == 5) return full();
            now.shows.add(new int[] {kind, cell, loud, 1});
            now.past.clear();
            return now.shows.size() - 1;
        }

        int watcher(int kind, int cell) {
            if (!in(kind, 0, 5) || !in(cell, 0, 29)) return bad();
            if (now.watchers.size() == 6) return full();
            now.watchers.add(new int[] {kind, cell, 0});
            now.past.clear();
            return now.watchers.size() - 1;
        }

        int type(int c) {
            if (!in(c, 0, 127)) return bad();
            if (text.length() == 150) return full();
            text += (char) c;
            return text.length();
        }

        int clear() {
            int had = text.length();
            text = "";
            return had;
        }

        int read() {
            State told = new State();
            int answer = new Telling(text).into(told);
            if (answer >= 0) now = told;
            return answer;
        }

        int does(int cell) {
            if (!in(cell, 0, 29)) return bad();
            remember();
            int bits = now.who(cell, now.step);
            now.doing(cell);
            return bits;
        }

        int rest(int n) {
            if (!in(n, 1, 99)) return bad();
            remember();
            now.step = Math.min(9999, now.step + n);
            return now.step;
        }

        int moves(int s, int cell) {
            if (!hasShow(s) || !in(cell, 0, 29)) return bad();
            remember();
            int[] was = now.shows.get(s);
            now.shows.set(s, new int[] {was[0], cell, was[2], was[3]});
            return was[1];
        }

        int turns(int s, int on) {
            if (!hasShow(s) || !in(on, 0, 1)) return bad();
            remember();
            int[] was = now.shows.get(s);
            now.shows.set(s, new int[] {was[0], was[1], was[2], on});
            return was[3];
        }

        int sends(int w, int cell) {
            if (!hasWatcher(w) || !in(cell, 0, 29)) return bad();
            remember();
            int[] was = now.watchers.get(w);
            now.watchers.set(w, new int[] {was[0], cell, was[2]});
            return was[1];
        }

        int undo() {
            if (now.past.isEmpty()) return no();
            State was = now.past.remove(now.past.size() - 1);
            now.step = was.step;
            now.done = was.done;
            now.shows = new ArrayList<>(was.shows);
            now.watchers = new ArrayList<>(was.watchers);
            return now.step;
        }

        int of(int s, int what) {
            return hasShow(s) && in(what, 0, 3) ? now.shows.get(s)[what] : bad();
        }

        int about(int w, int what) {
            return hasWatcher(w) && in(what, 0, 2) ? now.watchers.get(w)[what] : bad();
        }

        int pull(int s, int w) {
            return hasShow(s) && hasWatcher(w) ? pullOf(now.shows.get(s), now.watchers.get(w)[1], now.step) : bad();
        }

        int drawn(int w, int what) {
            if (!hasWatcher(w) || !in(what, 0, 1)) return bad();
            int[] watcher = now.watchers.get(w);
            int most = now.greatestAt(watcher[1], now.step, now.on());
            if (what == 1) return WATCHERS[watcher[0]].drawn(most);
            for (int s = 0; s < now.shows.size(); s++) {
                int[] show = now.shows.get(s);
                if (show[3] == 1 && most > 0 && pullOf(show, watcher[1], now.step) == most) return s;
            }
            return -1;
        }

        int sees(int w, int cell) {
            if (w != -1 && !hasWatcher(w) || !in(cell, 0, 29)) return bad();
            if (w == -1) return now.who(cell, now.step);
            return now.sees(now.watchers.get(w), cell, now.step, now.on()) ? 1 : 0;
        }

        int unseen(int t) {
            if (!in(t, 0, 11)) return bad();
            int bits = 0;
            for (int c = 29; c >= 0; c--) {
                bits = bits * 2 + (now.who(c, t) == 0 ? 1 : 0);
            }
            return bits;
        }

        int when(int cell) {
            if (!in(cell, 0, 29)) return bad();
            for (int i = 0; i < 24; i++) {
                if (now.who(cell, (long) now.step + i) == 0) return i;
            }
            return -1;
        }

        int enough(int cell) {
            if (!in(cell, 0, 29)) return bad();
            for (int size = 0; size <= 5; size++) {
                for (int mask = 0; mask < 32 >> 5 - now.shows.size(); mask++) {
                    if (Integer.bitCount(mask) == size && now.who(cell, now.step, mask) == 0) return mask;
                }
            }
            return -1;
        }

        int place(int s, int cell, int what) {
            if (!hasShow(s) || !in(cell, 0, 29) || !in(what, 0, 1)) return bad();
            int best = 0, few = 99;
            for (int c = 0; c < 30; c++) {
                State other = now.copy();
                int[] was = now.shows.get(s);
                other.shows.set(s, new int[] {was[0], c, was[2], 1});
                int n = Integer.bitCount(other.who(cell, now.step));
                if (n < few) {
                    few = n;
                    best = c;
                }
            }
            return what == 0 ? best : few;
        }

        /** All ways in rising order, each by its steps; the first of those whose last step is soonest. */
        int[] firstWay(int[] cells) {
            int[] best = null;
            boolean[][] open = new boolean[cells.length][24];
            for (int k = 0; k < cells.length; k++) {
                for (int i = 0; i < 24; i++) {
                    open[k][i] = now.who(cells[k], (long) now.step + i) == 0;
                }
            }
            int[] way = new int[cells.length];
            long all = 1;
            for (int k = 0; k < cells.length; k++) {
                all *= 24;
            }
            for (long code = 0; code < all; code++) {
                long left = code;
                for (int k = cells.length - 1; k >= 0; k--) {
                    way[k] = (int) (left % 24);
                    left /= 24;
                }
                boolean fits = true;
                int used = 0;
                for (int k = 0; fits && k < way.length; k++) {
                    fits = open[k][way[k]] && (used >> way[k] & 1) == 0;
                    used |= 1 << way[k];
                }
                if (fits && (best == null || Arrays.stream(way).max().getAsInt() < Arrays.stream(best).max().getAsInt())) {
                    best = way.clone();
                }
            }
            return best;
        }

        int plan(int cells, int i) {
            String figures = String.valueOf(cells);
            boolean fine = i >= -1 && cells > 0 && figures.length() % 2 == 0 && figures.length() <= 8;
            int[] told = new int[figures.length() / 2];
            for (int k = 0; fine && k < told.length; k++) {
                told[k] = Integer.parseInt(figures.substring(2 * k, 2 * k + 2)) - 11;
                fine = in(told[k], 0, 29);
            }
            if (!fine) {
                bad();
                return -10;
            }
            int[] way = firstWay(told);
            if (way == null) return -1;
            if (i == -1) return Arrays.stream(way).max().getAsInt() + 1;
            return i < way.length ? way[i] : -5;
        }

        int guard(int w, int what) {
            if (!hasWatcher(w) || !in(what, 0, 1)) return bad();
            int best = 0, most = -1;
            for (int c = 0; c < 30; c++) {
                int n = 0;
                int[] standing = {now.watchers.get(w)[0], c, 0};
                for (int d = 0; d < 30; d++) {
                    n += now.sees(standing, d, now.step, now.on()) ? 1 : 0;
                }
                if (n > most) {
                    most = n;
                    best = c;
                }
            }
            return what == 0 ? best : most;
        }

        int saw(int t, int who) {
            if (!in(t, 0, 11) || !in(who, 0, (1 << now.watchers.size()) - 1)) return bad();
            if (now.saws.size() == 6) return full();
            now.saws.add(new int[] {t, who});
            return now.saws.size();
        }

        int where() {
            int bits = 0;
            for (int c = 0; c < 30; c++) {
                boolean may = true;
                for (int[] saw : now.saws) {
                    may &= now.who(c, saw[0]) == saw[1];
                }
                bits |= may ? 1 << c : 0;
            }
            return bits;
        }

        int note(int s, int l, int f, int t, int x) {
            if (!hasShow(s) || !in(l, 1, 9) || !in(f, 0, 9) || !in(t, 0, 11) || !in(x, 0, 40)) return bad();
            if (now.notes.size() == 6) return full();
            now.notes.add(new int[] {s, l, f, t, x});
            return now.notes.size();
        }

        int mark(int w, int f, int p, int saw) {
            if (!hasWatcher(w) || !in(f, 0, 9) || !in(p, 0, 40) || !in(saw, 0, 1)) return bad();
            if (now.marks.size() == 6) return full();
            now.marks.add(new int[] {w, f, p, saw});
            return now.marks.size();
        }

        int forget(int what) {
            if (!in(what, 0, 2)) return bad();
            List<int[]> rows = what == 0 ? now.saws : what == 1 ? now.notes : now.marks;
            int had = rows.size();
            rows.clear();
            return had;
        }

        List<Integer> showKinds(int s) {
            List<Integer> kinds = new ArrayList<>();
            for (int k = 0; k < 6; k++) {
                boolean may = true;
                for (int[] n : now.notes) {
                    may &= n[0] != s || SHOWS[k].pull(n[1], n[2], n[3]) == n[4];
                }
                if (may) kinds.add(k);
            }
            return kinds;
        }

        List<Integer> watcherKinds(int w) {
            List<Integer> kinds = new ArrayList<>();
            for (int k = 0; k < 6; k++) {
                boolean may = true;
                for (int[] m : now.marks) {
                    may &= m[0] != w || WATCHERS[k].notes(m[1]) > WATCHERS[k].drawn(m[2]) == (m[3] == 1);
                }
                if (may) kinds.add(k);
            }
            return kinds;
        }

        static int bits(List<Integer> kinds) {
            int bits = 0;
            for (int k : kinds) {
                bits |= 1 << k;
            }
            return bits;
        }

        int is(int s) {
            return hasShow(s) ? bits(showKinds(s)) : bad();
        }

        int look(int s) {
            if (!hasShow(s)) return bad();
            List<Integer> kinds = showKinds(s);
            if (kinds.isEmpty()) return -1;
            int best = -1, few = 99;
            for (int code = 0; code < 1200; code++) {
                int t = code / 100, f = code % 100;
                if (f > 9) continue;
                List<Integer> pulls = new ArrayList<>();
                for (int k : kinds) {
                    pulls.add(SHOWS[k].pull(now.shows.get(s)[2], f, t));
                }
                int most = 0;
                for (int p : pulls) {
                    most = Math.max(most, Collections.frequency(pulls, p));
                }
                if (most < few) {
                    few = most;
                    best = code;
                }
            }
            return best;
        }

        int what(int w) {
            return hasWatcher(w) ? bits(watcherKinds(w)) : bad();
        }

        int tries(int w) {
            if (!hasWatcher(w)) return bad();
            List<Integer> kinds = watcherKinds(w);
            if (kinds.isEmpty()) return -1;
            int best = -1, few = 99;
            for (int code = 0; code < 1000; code++) {
                int f = code / 100, p = code % 100;
                if (p > 40) continue;
                int see = 0;
                for (int k : kinds) {
                    see += WATCHERS[k].notes(f) > WATCHERS[k].drawn(p) ? 1 : 0;
                }
                int most = Math.max(see, kinds.size() - see);
                if (most < few) {
                    few = most;
                    best = code;
                }
            }
            return best;
        }

        int game(int w, int a, int b) {
            if (!hasWatcher(w) || !in(a, 0, 29) || !in(b, 0, 29) || a == b) return bad();
            int[] at = {a, b};
            int[][] county = new int[2][2];
            for (int d = 0; d < 2; d++) {
                for (int s = 0; s < 2; s++) {
                    int[] standing = {now.watchers.get(w)[0], at[s], 0};
                    county[d][s] = now.sees(standing, at[d], now.step, now.on()) ? 0 : 1;
                }
            }
            int bits = 0;
            for (int d = 0; d < 2; d++) {
                for (int s = 0; s < 2; s++) {
                    boolean rests = county[d][s] >= county[1 - d][s] && 1 - county[d][s] >= 1 - county[d][1 - s];
                    bits |= rests ? 1 << d + 2 * s : 0;
                }
            }
            return bits;
        }

        /** Adds what each way of failing gives, show by show. */
        BigInteger meanTimes(int cell, int c, int s, int mask) {
            if (s == now.shows.size()) return BigInteger.valueOf(Integer.bitCount(now.who(cell, now.step, mask)));
            if (now.shows.get(s)[3] == 0) return meanTimes(cell, c, s + 1, mask);
            return BigInteger.valueOf(c).multiply(meanTimes(cell, c, s + 1, mask))
                .add(BigInteger.valueOf(10 - c).multiply(meanTimes(cell, c, s + 1, mask | 1 << s)));
        }

        int fails(int cell, int c) {
            if (!in(cell, 0, 29) || !in(c, 0, 10)) return bad();
            BigInteger a = meanTimes(cell, c, 0, 0);
            BigInteger b = BigInteger.TEN.pow(Integer.bitCount(now.on()));
            BigInteger g = a.gcd(b);
            above = a.divide(g).longValue();
            below = b.divide(g).longValue();
            return 1;
        }

        int years(int seed, int n) {
            if (!in(seed, 0, 999999) || !in(n, 0, 60)) return bad();
            BigInteger x = BigInteger.valueOf(seed);
            int all = 0;
            for (int i = 0; i < n; i++) {
                x = x.multiply(BigInteger.valueOf(1103515245)).add(BigInteger.valueOf(12345)).mod(BigInteger.ONE.shiftLeft(31));
                all += Integer.bitCount(now.who(x.shiftRight(16).intValue() % 30, (long) now.step + i));
            }
            return all;
        }

        long part(int what) {
            return what == 0 ? above : what == 1 ? below : bad();
        }

        int image(int i) {
            if (!in(i, 0, 1)) return bad();
            images[i] = now.copy();
            return 1;
        }

        int from(int i) {
            if (!in(i, 0, 1)) return bad();
            if (images[i] == null) return no();
            now = images[i].copy();
            return 1;
        }

        int status(int what) {
            if (in(what, 0, 2)) return status[what];
            bad();
            return -1;
        }

        int[] counts() {
            int known = 0;
            for (int[] w : now.watchers) {
                known += w[2];
            }
            return new int[] {now.shows.size(), now.watchers.size(), now.step, now.done, Integer.bitCount(now.on()), known,
                now.saws.size(), now.notes.size(), now.marks.size(), now.past.size(), text.length()};
        }

        int count(int what) {
            return in(what, 0, 10) ? counts()[what] : bad();
        }

        long digest() {
            List<Long> all = new ArrayList<>();
            for (int n : counts()) {
                all.add((long) n);
            }
            for (List<int[]> rows : List.of(now.shows, now.watchers, now.saws, now.notes, now.marks)) {
                for (int[] row : rows) {
                    for (int n : row) {
                        all.add((long) n);
                    }
                }
            }
            all.add(above);
            all.add(below);
            long h = 1487;
            for (long v : all) {
                h = 31 * h + v;
            }
            return h;
        }
    }

    // ---- the text, by a list of tokens

    record Token(int begin, String word) { }

    static final class Telling {
        final List<Token> tokens = new ArrayList<>();
        final int length;
        int next = 0;

        Telling(String text) {
            length = text.length();
            int i = 0;
            while (i < length) {
                int begin = i;
                char c = text.charAt(i);
                if (c == ' ') {
                    i++;
                    continue;
                }
                String sort = c >= 'a' && c <= 'z' ? "a" : c >= '0' && c <= '9' ? "0" : "";
                i++;
                while (!sort.isEmpty() && i < length && (sort.equals("a") ? text.charAt(i) >= 'a' && text.charAt(i) <= 'z'
                        : text.charAt(i) >= '0' && text.charAt(i) <= '9')) {
                    i++;
                }
                tokens.add(new Token(begin, text.substring(begin, i)));
            }
        }

        static final class Fault extends Exception {
            private static final long serialVersionUID = 1;
            final int at;

            Fault(int at) {
                this.at = at;
            }
        }

        int begin() {
            return next < tokens.size() ? tokens.get(next).begin() : length;
        }

        String word() throws Fault {
            if (next >= tokens.size()) throw new Fault(length);
            return tokens.get(next).word();
        }

        int number(int least, int most) throws Fault {
            String w = word();
            if (!w.matches("[0-9]{1,2}")) throw new Fault(begin());
            int n = Integer.parseInt(w);
            if (n < least || n > most) throw new Fault(begin());
            next++;
            return n;
        }

        void only(String w) throws Fault {
            if (!word().equals(w)) throw new Fault(begin());
            next++;
        }

        int into(State s) {
            try {
                only("land");
                only(";");
                int items = 1;
                while (next < tokens.size()) {
                    item(s);
                    only(";");
                    items++;
                }
                return items;
            } catch (Fault f) {
                return -10 - f.at;
            }
        }

        // an item's deed waits for its ";", but a land that fails is thrown away as a whole
        void item(State s) throws Fault {
            int at = begin();
            String w = word();
            next++;
            if (w.equals("show") && s.shows.size() < 5) {
                int kind = number(0, 5);
                int cell = number(0, 29);
                s.shows.add(new int[] {kind, cell, number(1, 9), 1});
            } else if (w.equals("watcher") && s.watchers.size() < 6) {
                int kind = number(0, 5);
                s.watchers.add(new int[] {kind, number(0, 29), 0});
            } else if (w.equals("off")) {
                int n = number(0, s.shows.size() - 1);
                int[] was = s.shows.get(n);
                s.shows.set(n, new int[] {was[0], was[1], was[2], 0});
            } else if (w.equals("do")) {
                s.doing(number(0, 29));
            } else if (w.equals("rest")) {
                s.step = Math.min(9999, s.step + number(1, 99));
            } else {
                throw new Fault(at);
            }
        }
    }

    // ---- runs

    static final class Run {
        final int run;
        final Random dice;
        final CountyTrick real = new CountyTrick();
        final Model model = new Model();
        final List<String> told = new ArrayList<>();

        Run(int run) {
            this.run = run;
            this.dice = new Random(7919L * run + 1);
        }

        int n(int least, int most) {
            if (dice.nextInt(60) == 0) {
                int[] odd = {least - 1, most + 1, -1, Integer.MIN_VALUE, Integer.MAX_VALUE, -2, 1 << 30};
                return odd[dice.nextInt(odd.length)];
            }
            return least + dice.nextInt(most - least + 1);
        }

        int s() {
            return n(0, Math.max(0, model.now.shows.size() - 1));
        }

        int w() {
            return n(0, Math.max(0, model.now.watchers.size() - 1));
        }

        void due(String call, long got, long want) {
            told.add(call + " = " + got);
            if (got != want) {
                wrong++;
                System.out.println("run " + run + ", call " + told.size() + ": " + call + " answered " + got + ", the model " + want);
                System.out.println("  behind " + told.subList(Math.max(0, told.size() - 12), told.size() - 1));
            }
        }

        void go() {
            int before = wrong;
            if (dice.nextInt(4) == 0) typeAll();
            while (told.size() < 512 && wrong == before) {
                // a text takes some 200 calls at most, and an object is good for 512
                if (dice.nextInt(500) == 0 && told.size() <= 300) typeAll();
                call(dice.nextInt(100));
            }
        }

        void typeAll() {
            due("clear", real.clear(), model.clear());
            for (char c : someText().toCharArray()) {
                due("type " + (int) c, real.type(c), model.type(c));
            }
            due("read " + model.text, real.read(), model.read());
            due("digest", real.digest(), model.digest());
        }

        String someText() {
            StringBuilder b = new StringBuilder("land;");
            int shows = 0;
            while (b.length() < 150 && dice.nextInt(14) != 0) {
                String[] items = {
                    "show " + n(0, 5) + " " + n(0, 29) + " " + n(1, 9) + ";", "off " + n(0, Math.max(0, shows - 1)) + ";",
                    "watcher " + n(0, 5) + " " + n(0, 29) + ";", "do " + n(0, 29) + ";", "rest " + n(1, 99) + ";",
                    " ", "do" + n(0, 29) + " ; "
                };
                int which = dice.nextInt(items.length);
                shows += which == 0 ? 1 : 0;
                b.append(items[which]);
            }
            if (dice.nextInt(3) == 0) b.setLength(Math.max(0, b.length() - 1 - dice.nextInt(9)));
            if (dice.nextInt(3) == 0 && b.length() > 0) {
                String odd = "09;; azA\t~{`/:<doland-";
                b.setCharAt(dice.nextInt(b.length()), odd.charAt(dice.nextInt(odd.length())));
            }
            return b.toString();
        }

        void call(int which) {
            int a, b, c, d, e;
            switch (which / 2) {
                case 0: if (dice.nextInt(8) == 0) due("land", real.land(), model.land()); break;
                case 1: case 2: a = n(0, 5); b = n(0, 29); c = n(1, 9); due("show " + a + " " + b + " " + c, real.show(a, b, c), model.show(a, b, c)); break;
                case 3: case 4: a = n(0, 5); b = n(0, 29); due("watcher " + a + " " + b, real.watcher(a, b), model.watcher(a, b)); break;
                case 5: a = n(0, 127); due("type " + a, real.type(a), model.type(a)); break;
                case 6: if (dice.nextInt(20) == 0) due("clear", real.clear(), model.clear()); break;
                case 7: due("read", real.read(), model.read()); break;
                case 8: case 9: a = n(0, 29); due("does " + a, real.does(a), model.does(a)); break;
                case 10: a = n(1, dice.nextInt(3) == 0 ? 99 : 4); due("rest " + a, real.rest(a), model.rest(a)); break;
                case 11: case 12: a = s(); b = n(0, 29); due("moves " + a + " " + b, real.moves(a, b), model.moves(a, b)); break;
                case 13: case 14: a = s(); b = n(0, 1); due("turns " + a + " " + b, real.turns(a, b), model.turns(a, b)); break;
                case 15: a = w(); b = n(0, 29); due("sends " + a + " " + b, real.sends(a, b), model.sends(a, b)); break;
                case 16: case 17: due("undo", real.undo(), model.undo()); break;
                case 18: a = s(); b = n(0, 3); due("of " + a + " " + b, real.of(a, b), model.of(a, b)); break;
                case 19: a = w(); b = n(0, 2); due("about " + a + " " + b, real.about(a, b), model.about(a, b)); break;
                case 20: a = s(); b = w(); due("pull " + a + " " + b, real.pull(a, b), model.pull(a, b)); break;
                case 21: a = w(); b = n(0, 1); due("drawn " + a + " " + b, real.drawn(a, b), model.drawn(a, b)); break;
                case 22: a = dice.nextBoolean() ? -1 : w(); b = n(0, 29); due("sees " + a + " " + b, real.sees(a, b), model.sees(a, b)); break;
                case 23: a = n(0, 11); due("unseen " + a, real.unseen(a), model.unseen(a)); break;
                case 24: a = n(0, 29); due("when " + a, real.when(a), model.when(a)); break;
                case 25: a = n(0, 29); due("enough " + a, real.enough(a), model.enough(a)); break;
                case 26: case 27: a = s(); b = n(0, 29); c = n(0, 1); due("place " + a + " " + b + " " + c, real.place(a, b, c), model.place(a, b, c)); break;
                case 28: case 29: plan(); break;
                case 30: a = w(); b = n(0, 1); due("guard " + a + " " + b, real.guard(a, b), model.guard(a, b)); break;
                case 31: a = n(0, 11); b = someWho(a); due("saw " + a + " " + b, real.saw(a, b), model.saw(a, b)); break;
                case 32: due("where", real.where(), model.where()); break;
                case 33: a = s(); b = n(1, 9); c = n(0, 9); d = n(0, 11); e = somePull(b, c, d); due("note " + List.of(a, b, c, d, e), real.note(a, b, c, d, e), model.note(a, b, c, d, e)); break;
                case 34: a = w(); b = n(0, 9); c = dice.nextBoolean() ? n(0, 40) : n(0, 12); d = n(0, 1); due("mark " + List.of(a, b, c, d), real.mark(a, b, c, d), model.mark(a, b, c, d)); break;
                case 35: a = n(0, 2); due("forget " + a, real.forget(a), model.forget(a)); break;
                case 36: a = s(); due("is " + a, real.is(a), model.is(a)); break;
                case 37: a = s(); due("look " + a, real.look(a), model.look(a)); break;
                case 38: a = w(); due("what " + a, real.what(a), model.what(a)); break;
                case 39: a = w(); due("tries " + a, real.tries(a), model.tries(a)); break;
                case 40: a = w(); b = n(0, 29); c = n(0, 29); due("game " + a + " " + b + " " + c, real.game(a, b, c), model.game(a, b, c)); break;
                case 41: a = n(0, 29); b = n(0, 10); due("fails " + a + " " + b, real.fails(a, b), model.fails(a, b)); break;
                case 42: a = n(0, 999999); b = n(0, 60); due("years " + a + " " + b, real.years(a, b), model.years(a, b)); break;
                case 43: a = n(0, 1); due("part " + a, real.part(a), model.part(a)); break;
                case 44: a = n(0, 1); due("image " + a, real.image(a), model.image(a)); break;
                case 45: a = n(0, 1); if (dice.nextInt(3) == 0) due("from " + a, real.from(a), model.from(a)); break;
                case 46: a = n(0, 2); due("status " + a, real.status(a), model.status(a)); break;
                case 47: a = n(0, 10); due("count " + a, real.count(a), model.count(a)); break;
                default: due("digest", real.digest(), model.digest()); break;
            }
        }

        int someWho(int t) {
            boolean told = in(t, 0, 11) && dice.nextInt(4) != 0;
            return told ? model.now.who(dice.nextInt(30), t) : n(0, (1 << model.now.watchers.size()) - 1);
        }

        int somePull(int l, int f, int t) {
            boolean told = in(l, 1, 9) && in(f, 0, 9) && in(t, 0, 11) && dice.nextInt(5) != 0;
            return told ? SHOWS[dice.nextInt(6)].pull(l, f, t) : n(0, 40);
        }

        void plan() {
            int many = dice.nextInt(40) == 0 ? 4 : 1 + dice.nextInt(3);
            long number = 0;
            for (int k = 0; k < many; k++) {
                number = number * 100 + n(11, 40);
            }
            int cells = dice.nextInt(20) == 0 ? n(0, Integer.MAX_VALUE - 1) : (int) number;
            int i = n(-1, many);
            due("plan " + cells + " " + i, real.plan(cells, i), model.plan(cells, i));
        }
    }
}
