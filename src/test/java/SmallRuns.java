import java.util.ArrayList;
import java.util.List;
import java.util.Random;
import java.util.TreeSet;

/**
 * Random runs of calls on small objects. Every answer is compared with that of a model which
 * follows the document's words by looking at all tables with all ways of using spans.
 */
public final class SmallRuns {
    private static final int RUNS = 1500;
    private static final int CALLS = 500;
    private static final int TELLING = 10;
    private static final int ROUND = 50;
    private static final int MOST_SHOWN = 20;
    private static int wrong = 0;

    public static void main(String[] args) {
        for (int seed = 0; seed < RUNS && wrong < MOST_SHOWN; seed++) {
            oneRun(seed);
        }
        System.out.println(wrong == 0 ? "all answers are as due" : wrong + " answers are not as due");
        if (wrong != 0) {
            System.exit(1);
        }
    }

    private static void oneRun(int seed) {
        Random random = new Random(seed);
        int steps = random.nextInt(8);
        int levels = steps > 5 ? random.nextInt(3) : random.nextInt(6);
        LevelTables x = new LevelTables(steps, levels);
        Model model = new Model(steps, levels);
        Caller caller = new Caller(random, model, seed % 3 == 0);
        StringBuilder told = new StringBuilder("new LevelTables(" + steps + ", " + levels + ")");
        for (int i = 0; i < CALLS; i++) {
            caller.choose(i % ROUND);
            long got = caller.callProgram(x);
            long want = caller.callModel(model);
            told.append("\n  ").append(caller.text()).append(" ").append(got);
            if (got != want) {
                wrong++;
                System.out.println("seed " + seed + ": " + told + ", due is " + want);
                return;
            }
        }
    }

    /** Chooses a call and makes it on both. */
    private static final class Caller {
        private final Random random;
        private final Model model;
        private final boolean wild;
        private int which;
        private int a;
        private int b;
        private int c;
        private int d;
        private long cents;

        Caller(Random random, Model model, boolean wild) {
            this.random = random;
            this.model = model;
            this.wild = wild;
        }

        private int upTo(int most) {
            if (wild && random.nextInt(12) == 0) {
                int[] odd = {-1, -2, most + 1, Integer.MAX_VALUE, Integer.MIN_VALUE, 25, 1001, 1000001};
                return odd[random.nextInt(odd.length)];
            }
            return random.nextInt(most + 1);
        }

        private int levelOrNone(int oneInSo) {
            return random.nextInt(oneInSo) > 0 ? -1 : upTo(model.m);
        }

        private int price() {
            return random.nextInt(8) == 0 ? upTo(1000000) : upTo(3);
        }

        private int oneOf(int[] calls) {
            return calls[random.nextInt(calls.length)];
        }

        void choose(int turn) {
            // First the site is told, then a table found, then it is asked for; and so again.
            if (turn < TELLING) {
                which = oneOf(new int[] {0, 0, 0, 0, 1, 1, 2, 2, 2, 3, 4, 5, 11, 14});
            } else if (turn == TELLING) {
                which = 6;
            } else {
                which = oneOf(new int[] {6, 7, 8, 9, 9, 10, 10, 11, 12, 12, 12, 13, 13, 14, 15, 15, 16, 17, 17, 18});
            }
            chooseNumbers(model.n, model.m);
        }

        private void chooseNumbers(int n, int m) {
            switch (which) {
                case 0: a = upTo(n); b = upTo(m); break;
                case 1: a = upTo(n); b = price(); c = price(); break;
                case 2: a = upTo(n); b = a + 2 + upTo(2); c = upTo(1); cents = spanCents(); break;
                case 3: a = upTo(2); break;
                case 4: a = upTo(n); b = levelOrNone(3); break;
                case 5: a = 1 + upTo(3); b = upTo(4); c = random.nextInt(3) > 0 ? 0 : upTo(2); break;
                case 7: a = upTo(n); break;
                case 9: a = upTo(5); break;
                case 10: a = upTo(n); b = levelOrNone(2); break;
                case 11: a = random.nextBoolean() ? upTo(1000) : random.nextInt(300); break;
                case 12: a = upTo(n); b = random.nextInt(6) == 0 ? 0 : upTo(1000); break;
                case 13: a = upTo(n); b = upTo(8); break;
                case 14: a = upTo(100); b = upTo(100); c = upTo(60); d = upTo(60); break;
                case 15: a = random.nextInt(2) * upTo(2); b = upTo(2); break;
                case 16: a = upTo(n); break;
                case 17: a = upTo(7); break;
                default: break;
            }
        }

        private long spanCents() {
            if (wild && random.nextInt(8) == 0) {
                return random.nextBoolean() ? -1L : 1000000001L;
            }
            return random.nextInt(8) == 0 ? 1000000000L : random.nextInt(4);
        }

        String text() {
            String[] names = {"ground", "prices", "span", "drop", "fixed", "slopes", "run", "level",
                "cost", "other", "move", "speed", "curve", "curveAt", "lorry", "lane", "order", "told",
                "keeps"};
            return names[which] + "(" + a + ", " + b + ", " + c + ", " + d + "; cents " + cents + ")";
        }

        private static long number(boolean answer) {
            return answer ? 1 : 0;
        }

        long callProgram(LevelTables x) {
            switch (which) {
                case 0: return number(x.ground(a, b));
                case 1: return number(x.prices(a, b, c));
                case 2: return x.span(a, b, c, cents);
                case 3: return number(x.drop(a));
                case 4: return number(x.fixed(a, b));
                case 5: return number(x.slopes(a, b, c));
                case 6: return x.run();
                case 7: return x.level(a);
                case 8: return x.cost();
                case 9: return x.other(a);
                case 10: return number(x.move(a, b));
                case 11: return number(x.speed(a));
                case 12: return x.curve(a, b);
                case 13: return x.curveAt(a, b);
                case 14: return number(x.lorry(a, b, c, d));
                case 15: return x.lane(a, b);
                case 16: return x.order(a);
                case 17: return x.told(a);
                default: return number(x.keeps());
            }
        }

        long callModel(Model x) {
            switch (which) {
                case 0: return number(x.ground(a, b));
                case 1: return number(x.prices(a, b, c));
                case 2: return x.span(a, b, c, cents);
                case 3: return number(x.drop(a));
                case 4: return number(x.fixed(a, b));
                case 5: return number(x.slopes(a, b, c));
                case 6: return x.run();
                case 7: return x.level(a);
                case 8: return x.cost();
                case 9: return x.other(a);
                case 10: return number(x.move(a, b));
                case 11: return number(x.speed(a));
                case 12: return x.curve(a, b);
                case 13: return x.curveAt(a, b);
                case 14: return number(x.lorry(a, b, c, d));
                case 15: return x.lane(a, b);
                case 16: return x.order(a);
                case 17: return x.told(a);
                default: return number(x.keeps());
            }
        }
    }

    private record Span(int from, int to, int kind, long cents) {
        boolean hasStep(int step) {
            return step >= from && step < to;
        }

        boolean hasBetween(int place) {
            return place > from && place < to;
        }
    }

    /** A table with the spans that it uses, and what orders tables. */
    private static final class Found {
        final int[] level;
        final int used;
        final long cost;
        final int sizes;

        Found(int[] level, int used, long cost, int sizes) {
            this.level = level;
            this.used = used;
            this.cost = cost;
            this.sizes = sizes;
        }
    }

    /** The document, word by word. */
    private static final class Model {
        final int n;
        final int m;
        private final int[] ground;
        private final int[] cut;
        private final int[] fill;
        private final Integer[] fixed;
        private final Integer[] moved;
        private final List<Span> spans = new ArrayList<>();
        private int most = 2;
        private int change = 1;
        private int falls = 0;
        private int v = 0;
        private int top = 80;
        private int least = 50;
        private int loss = 10;
        private int gain = 5;
        private Found table = null;
        private int[] curves;

        private Found bestYet;
        private TreeSet<Long> costs;
        private int furthest;

        Model(int steps, int levels) {
            n = steps < 2 ? 2 : steps > 24 ? 24 : steps;
            m = levels < 1 ? 1 : levels > 24 ? 24 : levels;
            ground = new int[n + 1];
            cut = new int[n + 1];
            fill = new int[n + 1];
            for (int p = 0; p <= n; p++) {
                cut[p] = 1;
                fill[p] = 1;
            }
            fixed = new Integer[n + 1];
            moved = new Integer[n + 1];
            curves = new int[n + 1];
        }

        private boolean place(int p) {
            return 0 <= p && p <= n;
        }

        private boolean levelOk(int l) {
            return 0 <= l && l <= m;
        }

        private void forget() {
            table = null;
            curves = new int[n + 1];
        }

        boolean ground(int p, int l) {
            if (!place(p) || !levelOk(l)) {
                return false;
            }
            ground[p] = l;
            forget();
            return true;
        }

        boolean prices(int p, int c, int f) {
            if (!place(p) || c < 0 || c > 1000000 || f < 0 || f > 1000000) {
                return false;
            }
            cut[p] = c;
            fill[p] = f;
            forget();
            return true;
        }

        int span(int from, int to, int kind, long cents) {
            if (spans.size() == 6 || from < 0 || to > n || (long) to - from < 2) {
                return -1;
            }
            if (kind < 0 || kind > 1 || cents < 0 || cents > 1000000000L) {
                return -1;
            }
            for (Span s : spans) {
                for (int step = from; step < to; step++) {
                    if (s.hasStep(step)) {
                        return -1;
                    }
                }
            }
            spans.add(new Span(from, to, kind, cents));
            forget();
            return spans.size() - 1;
        }

        boolean drop(int k) {
            if (k < 0 || k >= spans.size()) {
                return false;
            }
            spans.remove(k);
            forget();
            return true;
        }

        boolean fixed(int p, int l) {
            if (!place(p) || (l != -1 && !levelOk(l))) {
                return false;
            }
            fixed[p] = l == -1 ? null : Integer.valueOf(l);
            forget();
            return true;
        }

        boolean slopes(int mo, int ch, int fa) {
            if (mo < 1 || mo > 24 || ch < 0 || ch > 48 || fa < 0 || fa > mo) {
                return false;
            }
            most = mo;
            change = ch;
            falls = fa;
            forget();
            return true;
        }

        private void lookAtAll() {
            bestYet = null;
            costs = new TreeSet<>();
            furthest = -1;
            lookFrom(new int[n + 1], 0);
        }

        private void lookFrom(int[] levels, int p) {
            if (p > n) {
                for (int used = 0; used < 1 << spans.size(); used++) {
                    if (mayUse(levels, used)) {
                        take(levels, used);
                    }
                }
                return;
            }
            for (int l = 0; l <= m; l++) {
                levels[p] = l;
                if (keepsAt(levels, p)) {
                    furthest = Math.max(furthest, p);
                    lookFrom(levels, p + 1);
                }
            }
        }

        private boolean keepsAt(int[] levels, int p) {
            if (fixed[p] != null && fixed[p] != levels[p] || moved[p] != null && moved[p] != levels[p]) {
                return false;
            }
            if (p == 0) {
                return true;
            }
            int t = levels[p] - levels[p - 1];
            if (Math.abs(t) < falls || Math.abs(t) > most) {
                return false;
            }
            return p == 1 || Math.abs(t - (levels[p - 1] - levels[p - 2])) <= change;
        }

        private boolean mayUse(int[] levels, int used) {
            for (int k = 0; k < spans.size(); k++) {
                if ((used >> k & 1) == 0) {
                    continue;
                }
                Span s = spans.get(k);
                for (int p = s.from() + 1; p < s.to(); p++) {
                    if (levels[p + 1] - levels[p] != levels[p] - levels[p - 1]) {
                        return false;
                    }
                    if (s.kind() == 0 ? levels[p] < ground[p] : levels[p] > ground[p]) {
                        return false;
                    }
                }
            }
            return true;
        }

        private boolean between(int used, int p) {
            for (int k = 0; k < spans.size(); k++) {
                if ((used >> k & 1) == 1 && spans.get(k).hasBetween(p)) {
                    return true;
                }
            }
            return false;
        }

        private boolean usedStep(int used, int step) {
            for (int k = 0; k < spans.size(); k++) {
                if ((used >> k & 1) == 1 && spans.get(k).hasStep(step)) {
                    return true;
                }
            }
            return false;
        }

        private int cutAt(int[] levels, int used, int p) {
            return between(used, p) ? 0 : Math.max(0, ground[p] - levels[p]);
        }

        private int filledAt(int[] levels, int used, int p) {
            return between(used, p) ? 0 : Math.max(0, levels[p] - ground[p]);
        }

        private void take(int[] levels, int used) {
            long cost = 0;
            int sizes = 0;
            for (int k = 0; k < spans.size(); k++) {
                cost += (used >> k & 1) * spans.get(k).cents();
            }
            for (int p = 0; p <= n; p++) {
                cost += (long) cutAt(levels, used, p) * cut[p] + (long) filledAt(levels, used, p) * fill[p];
                sizes += p == 0 ? 0 : Math.abs(levels[p] - levels[p - 1]);
            }
            costs.add(cost);
            Found found = new Found(levels.clone(), used, cost, sizes);
            if (bestYet == null || better(found, bestYet)) {
                bestYet = found;
            }
        }

        private boolean better(Found a, Found b) {
            if (a.cost != b.cost) {
                return a.cost < b.cost;
            }
            if (a.sizes != b.sizes) {
                return a.sizes < b.sizes;
            }
            if (a.level[0] != b.level[0]) {
                return a.level[0] < b.level[0];
            }
            for (int step = 0; step < n; step++) {
                if (a.level[step + 1] != b.level[step + 1]) {
                    return a.level[step + 1] < b.level[step + 1];
                }
                if (usedStep(a.used, step) != usedStep(b.used, step)) {
                    return !usedStep(a.used, step);
                }
            }
            return false;
        }

        int run() {
            forget();
            lookAtAll();
            if (furthest < n) {
                return -1 - (furthest + 1);
            }
            table = bestYet;
            return Integer.bitCount(table.used);
        }

        int level(int p) {
            return table == null || !place(p) ? -1 : table.level[p];
        }

        long cost() {
            return table == null ? -1 : table.cost;
        }

        long other(int k) {
            if (table == null || k < 0 || k > 5) {
                return -1;
            }
            lookAtAll();
            int i = 0;
            for (long cost : costs) {
                if (i == k) {
                    return cost;
                }
                i++;
            }
            return -1;
        }

        boolean move(int p, int l) {
            if (table == null || !place(p) || (l != -1 && !levelOk(l))) {
                return false;
            }
            Integer before = moved[p];
            moved[p] = l == -1 ? null : Integer.valueOf(l);
            lookAtAll();
            if (bestYet == null) {
                moved[p] = before;
                return false;
            }
            forget();
            table = bestYet;
            return true;
        }

        boolean speed(int s) {
            if (s < 0 || s > 1000) {
                return false;
            }
            v = s;
            return true;
        }

        int curve(int p, int half) {
            if (table == null || p < 1 || p > n - 1 || half < 0 || half > 1000) {
                return -1;
            }
            if (half > 0) {
                int s = table.level[p] - table.level[p - 1];
                int t = table.level[p + 1] - table.level[p];
                if (usedStep(table.used, p - 1) || usedStep(table.used, p)) {
                    return -5;
                }
                if ((fixed[p] != null || moved[p] != null) && s != t) {
                    return -4;
                }
                if (half < Math.abs(s - t) * v) {
                    return -2;
                }
                if (curves[p - 1] > 0 && curves[p - 1] + half > 1000) {
                    return -3;
                }
                if (curves[p + 1] > 0 && curves[p + 1] + half > 1000) {
                    return -3;
                }
            }
            curves[p] = half;
            return curvesThere();
        }

        private int curvesThere() {
            int count = 0;
            for (int half : curves) {
                count += half > 0 ? 1 : 0;
            }
            return count;
        }

        long curveAt(int p, int u) {
            if (table == null || !place(p) || curves[p] == 0 || u < 0 || u > 8) {
                return -1;
            }
            long h = curves[p];
            long s = table.level[p] - table.level[p - 1];
            long t = table.level[p + 1] - table.level[p];
            return 64000L * table.level[p] + h * (16 * s * u - 64 * s + (t - s) * u * u);
        }

        boolean lorry(int to, int le, int lo, int ga) {
            for (int number : new int[] {to, le, lo, ga}) {
                if (number < 0 || number > 1000) {
                    return false;
                }
            }
            top = to;
            least = le;
            loss = lo;
            gain = ga;
            return true;
        }

        int lane(int k, int what) {
            if (table == null || what < 0 || what > 2) {
                return -1;
            }
            List<int[]> lanes = new ArrayList<>();
            int speed = top;
            int[] open = null;
            for (int p = 0; p <= n; p++) {
                int s = p == 0 ? 0 : table.level[p] - table.level[p - 1];
                if (p > 0 && s > 0) {
                    speed = Math.max(0, speed - s * loss);
                } else if (p > 0) {
                    speed = Math.min(top, speed + (1 - s) * gain);
                }
                if (speed >= least) {
                    open = null;
                } else if (open == null) {
                    open = new int[] {p, p, speed};
                    lanes.add(open);
                } else {
                    open[1] = p;
                    open[2] = Math.min(open[2], speed);
                }
            }
            return k < 0 || k >= lanes.size() ? -1 : lanes.get(k)[what];
        }

        int order(int k) {
            if (table == null || k < 0 || k > n) {
                return -1;
            }
            List<Integer> places = new ArrayList<>();
            for (int p = 0; p <= n; p++) {
                places.add(p);
            }
            // The sort is stable: of alike ones the lesser place stays before.
            places.sort((p, q) -> Integer.compare(earth(q), earth(p)));
            return places.get(k);
        }

        private int earth(int p) {
            return cutAt(table.level, table.used, p) + filledAt(table.level, table.used, p);
        }

        int told(int what) {
            int sum = 0;
            for (int p = 0; p <= n; p++) {
                if (what == 1) {
                    sum += fixed[p] != null ? 1 : 0;
                } else if (what == 2) {
                    sum += moved[p] != null ? 1 : 0;
                } else if (what == 5 && table != null) {
                    sum += cutAt(table.level, table.used, p);
                } else if (what == 6 && table != null) {
                    sum += filledAt(table.level, table.used, p);
                }
            }
            if (what == 0) {
                return spans.size();
            }
            if (what == 1 || what == 2) {
                return sum;
            }
            if (table == null || what < 0 || what > 7) {
                return -1;
            }
            return what == 3 ? table.used : what == 4 ? table.sizes : what == 7 ? curvesThere() : sum;
        }

        boolean keeps() {
            return table != null;
        }
    }
}
