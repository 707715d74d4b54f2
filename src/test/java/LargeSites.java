import java.util.ArrayList;
import java.util.HashMap;
import java.util.List;
import java.util.Map;
import java.util.Random;
import java.util.TreeSet;

/**
 * Sites of all sizes up to the greatest, with up to six spans: the best table and the next costs
 * are compared with those of a second search, which goes step by step, knows at each step whether
 * it is of a used span, and carries whole tables along.
 */
public final class LargeSites {
    private static final int SITES = 160;
    private static int wrong = 0;

    public static void main(String[] args) {
        for (int seed = 0; seed < SITES; seed++) {
            Random random = new Random(1000 + seed);
            Site site = new Site(random);
            compare(seed, site, random);
        }
        dearestSite();
        System.out.println(wrong == 0 ? "all answers are as due" : wrong + " answers are not as due");
        if (wrong != 0) {
            System.exit(1);
        }
    }

    private static void due(int seed, String call, long got, long want) {
        if (got != want) {
            wrong++;
            System.out.println("seed " + seed + ": " + call + " answered " + got + ", due is " + want);
        }
    }

    private static void compare(int seed, Site site, Random random) {
        LevelTables x = site.toldTo();
        Rest best = site.best();
        int answer = x.run();
        if (best == null) {
            due(seed, "run() below 0", answer < 0 ? 1 : 0, 1);
            due(seed, "cost()", x.cost(), -1);
            return;
        }
        compareTable(seed, x, site, best, answer);
        for (int i = 0; i < 3; i++) {
            int place = random.nextInt(site.n + 1);
            int level = random.nextInt(site.m + 1);
            int before = site.moved[place];
            site.moved[place] = level;
            Rest moved = site.best();
            due(seed, "move(" + place + ", " + level + ")", x.move(place, level) ? 1 : 0, moved == null ? 0 : 1);
            if (moved == null) {
                site.moved[place] = before;
            } else {
                best = moved;
            }
            compareTable(seed, x, site, best, Integer.bitCount(x.told(3)));
        }
    }

    private static void compareTable(int seed, LevelTables x, Site site, Rest best, int spansUsed) {
        int bits = 0;
        for (int p = 0; p <= site.n; p++) {
            due(seed, "level(" + p + ")", x.level(p), best.levels.get(p));
            int k = p < site.n && best.used.get(p) ? site.spanOfStep(p) : -1;
            bits |= k < 0 ? 0 : 1 << k;
        }
        due(seed, "spans used", spansUsed, Integer.bitCount(bits));
        due(seed, "told(3)", x.told(3), bits);
        due(seed, "told(4)", x.told(4), best.sizes);
        due(seed, "cost()", x.cost(), best.cost);
        due(seed, "keeps()", x.keeps() ? 1 : 0, 1);
        int k = 0;
        for (long cost : site.costs()) {
            if (k < 6) {
                due(seed, "other(" + k + ")", x.other(k), cost);
            }
            k++;
        }
        for (; k < 6; k++) {
            due(seed, "other(" + k + ")", x.other(k), -1);
        }
    }

    /** The greatest costs that there are: nothing may overflow. */
    private static void dearestSite() {
        LevelTables x = new LevelTables(24, 24);
        for (int p = 0; p <= 24; p++) {
            x.prices(p, 1000000, 1000000);
            x.fixed(p, 24);
        }
        due(-1, "run()", x.run(), 0);
        due(-1, "cost()", x.cost(), 600000000L);
        due(-1, "other(0)", x.other(0), 600000000L);
        due(-1, "other(1)", x.other(1), -1);
        for (int k = 0; k < 6; k++) {
            due(-1, "span", x.span(4 * k, 4 * k + 4, 0, 1000000000L), k);
        }
        due(-1, "run()", x.run(), 0);
        due(-1, "cost()", x.cost(), 600000000L);
        due(-1, "other(1)", x.other(1), 1528000000L);
        due(-1, "other(5)", x.other(5), 5240000000L);
    }

    /** The rest of a table from a place on, with its cost. */
    private static final class Rest {
        long cost;
        int sizes;
        List<Integer> levels = new ArrayList<>();
        List<Boolean> used = new ArrayList<>();

        boolean before(Rest other) {
            if (cost != other.cost) {
                return cost < other.cost;
            }
            if (sizes != other.sizes) {
                return sizes < other.sizes;
            }
            if (!levels.get(0).equals(other.levels.get(0))) {
                return levels.get(0) < other.levels.get(0);
            }
            for (int i = 0; i < used.size(); i++) {
                if (!levels.get(i + 1).equals(other.levels.get(i + 1))) {
                    return levels.get(i + 1) < other.levels.get(i + 1);
                }
                if (!used.get(i).equals(other.used.get(i))) {
                    return other.used.get(i);
                }
            }
            return false;
        }
    }

    private static final class Site {
        private static final int FREE = 99;

        final int n;
        final int m;
        final int[] ground;
        final int[] cut;
        final int[] fill;
        final int[] fixed;
        final int[] moved;
        final List<long[]> spans = new ArrayList<>();
        final int most;
        final int change;
        final int falls;
        private final Map<Integer, Rest> rests = new HashMap<>();
        private final Map<Integer, TreeSet<Long>> restCosts = new HashMap<>();

        Site(Random random) {
            n = 2 + random.nextInt(23);
            m = 1 + random.nextInt(24);
            ground = new int[n + 1];
            cut = new int[n + 1];
            fill = new int[n + 1];
            fixed = new int[n + 1];
            moved = new int[n + 1];
            int dearest = random.nextBoolean() ? 4 : 1000000;
            for (int p = 0; p <= n; p++) {
                ground[p] = random.nextInt(m + 1);
                cut[p] = random.nextInt(dearest + 1);
                fill[p] = random.nextInt(dearest + 1);
                fixed[p] = random.nextInt(15) == 0 ? random.nextInt(m + 1) : -1;
                moved[p] = -1;
            }
            int widest = random.nextInt(4) == 0 ? 24 : 5;
            most = 1 + random.nextInt(widest);
            change = random.nextInt(2 * widest);
            falls = random.nextInt(3) == 0 ? random.nextInt(Math.min(most, 3)) : 0;
            addSpans(random, dearest);
        }

        private void addSpans(Random random, int dearest) {
            int from = random.nextInt(3);
            while (spans.size() < 6 && from + 2 <= n) {
                int to = Math.min(n, from + 2 + random.nextInt(4));
                // In any order: numbers do not follow the places.
                spans.add(random.nextInt(spans.size() + 1),
                        new long[] {from, to, random.nextInt(2), random.nextInt(2 * dearest + 1)});
                from = to + random.nextInt(2) * random.nextInt(3);
            }
        }

        LevelTables toldTo() {
            LevelTables x = new LevelTables(n, m);
            x.slopes(most, change, falls);
            for (int p = 0; p <= n; p++) {
                x.ground(p, ground[p]);
                x.prices(p, cut[p], fill[p]);
                x.fixed(p, fixed[p]);
            }
            for (long[] s : spans) {
                x.span((int) s[0], (int) s[1], (int) s[2], s[3]);
            }
            return x;
        }

        int spanOfStep(int step) {
            for (int k = 0; k < spans.size(); k++) {
                if (spans.get(k)[0] <= step && step < spans.get(k)[1]) {
                    return k;
                }
            }
            return -1;
        }

        Rest best() {
            rests.clear();
            restCosts.clear();
            Rest best = null;
            for (int l = 0; l <= m; l++) {
                Rest rest = rest(0, l, FREE, false);
                if (rest != null && (best == null || rest.before(best))) {
                    best = rest;
                }
            }
            return best;
        }

        TreeSet<Long> costs() {
            TreeSet<Long> all = new TreeSet<>();
            for (int l = 0; l <= m; l++) {
                all.addAll(costsOf(0, l, FREE, false));
            }
            return firstSix(all);
        }

        private static TreeSet<Long> firstSix(TreeSet<Long> all) {
            while (all.size() > 6) {
                all.pollLast();
            }
            return all;
        }

        private int key(int p, int l, int s, boolean u) {
            return ((p * 32 + l) * 128 + s + 24) * 2 + (u ? 1 : 0);
        }

        private boolean open(int p, int l) {
            return l >= 0 && l <= m && (fixed[p] < 0 || fixed[p] == l) && (moved[p] < 0 || moved[p] == l);
        }

        private boolean follows(int s, int t) {
            return Math.abs(t) >= falls && Math.abs(t) <= most && (s == FREE || Math.abs(s - t) <= change);
        }

        private long earth(int p, int l) {
            return l < ground[p] ? (long) (ground[p] - l) * cut[p] : (long) (l - ground[p]) * fill[p];
        }

        /** What the place costs when its steps before and behind are so used; below 0: not allowed. */
        private long costAt(int p, int l, int s, int t, boolean u, boolean used) {
            int k = spanOfStep(p);
            boolean inside = k >= 0 && spans.get(k)[0] < p;
            boolean starts = k >= 0 && spans.get(k)[0] == p;
            if (used && k < 0 || inside && used != u) {
                return -1;
            }
            if (inside && used) {
                boolean clear = spans.get(k)[2] == 0 ? l >= ground[p] : l <= ground[p];
                return clear && s == t ? 0 : -1;
            }
            return earth(p, l) + (starts && used ? spans.get(k)[3] : 0);
        }

        private Rest rest(int p, int l, int s, boolean u) {
            if (!open(p, l)) {
                return null;
            }
            int key = key(p, l, s, u);
            if (rests.containsKey(key)) {
                return rests.get(key);
            }
            Rest best = p == n ? atEnd(l) : bestRest(p, l, s, u);
            rests.put(key, best);
            return best;
        }

        private Rest atEnd(int l) {
            Rest rest = new Rest();
            rest.cost = earth(n, l);
            rest.levels.add(l);
            return rest;
        }

        private Rest bestRest(int p, int l, int s, boolean u) {
            Rest best = null;
            for (int t = -24; t <= 24; t++) {
                for (int i = 0; i < 2; i++) {
                    long here = costAt(p, l, s, t, u, i == 1);
                    Rest tail = here >= 0 && follows(s, t) ? rest(p + 1, l + t, t, i == 1) : null;
                    if (tail == null) {
                        continue;
                    }
                    Rest whole = new Rest();
                    whole.cost = here + tail.cost;
                    whole.sizes = Math.abs(t) + tail.sizes;
                    whole.levels.add(l);
                    whole.levels.addAll(tail.levels);
                    whole.used.add(i == 1);
                    whole.used.addAll(tail.used);
                    if (best == null || whole.before(best)) {
                        best = whole;
                    }
                }
            }
            return best;
        }

        private TreeSet<Long> costsOf(int p, int l, int s, boolean u) {
            TreeSet<Long> all = new TreeSet<>();
            if (!open(p, l)) {
                return all;
            }
            int key = key(p, l, s, u);
            if (restCosts.containsKey(key)) {
                return restCosts.get(key);
            }
            if (p == n) {
                all.add(earth(n, l));
            }
            for (int t = -24; t <= 24 && p < n; t++) {
                for (int i = 0; i < 2; i++) {
                    long here = costAt(p, l, s, t, u, i == 1);
                    if (here >= 0 && follows(s, t)) {
                        for (long tail : costsOf(p + 1, l + t, t, i == 1)) {
                            all.add(here + tail);
                        }
                    }
                }
            }
            restCosts.put(key, firstSix(all));
            return all;
        }
    }
}
