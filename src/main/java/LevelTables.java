import java.util.Arrays;

/** The levels of a road over places: the table of least cost, and what is asked of it. */
public final class LevelTables {
    public static final int NONE = -1;
    public static final int TIGHT = -2, NEAR = -3, HELD = -4, SPANNED = -5;

    private static final int LEAST_STEPS = 2;
    private static final int LEAST_TOP = 1;
    private static final int LIMIT = 24;
    private static final int MOST_CHANGE = 48;
    private static final int MOST_PRICE = 1000000;
    private static final int MOST_SPANS = 6;
    private static final long MOST_CENTS = 1000000000L;
    private static final int BRIDGE = 0;
    private static final int TUNNEL = 1;
    private static final int COSTS = 6;
    private static final int THOUSAND = 1000;
    private static final int PARTS = 8;
    private static final int CURVE_UNIT = 64000;

    private final Site site;
    private final Spans spans;
    private final Reach reach;
    private final Table table;
    private final Curves curves;
    private final Lorry driven;
    // Both are made at their first use: most of an object's room is theirs.
    private Search best;
    private Search cheapest;
    private boolean cheapestKnown;
    private int curveSpeed;

    public LevelTables(int steps, int levels) {
        int last = Math.max(LEAST_STEPS, Math.min(LIMIT, steps));
        int top = Math.max(LEAST_TOP, Math.min(LIMIT, levels));
        site = new Site(last, top);
        spans = new Spans();
        reach = new Reach(site);
        table = new Table(site, spans);
        curves = new Curves(last);
        driven = new Lorry();
    }

    public boolean ground(int place, int level) {
        if (!site.isPlace(place) || !site.isLevel(level)) {
            return false;
        }
        site.ground[place] = level;
        forget();
        return true;
    }

    public boolean prices(int place, int cut, int fill) {
        if (!site.isPlace(place) || !within(cut, MOST_PRICE) || !within(fill, MOST_PRICE)) {
            return false;
        }
        site.cut[place] = cut;
        site.fill[place] = fill;
        forget();
        return true;
    }

    public int span(int from, int to, int kind, long cents) {
        boolean lies = site.isPlace(from) && site.isPlace(to) && to - from >= 2;
        boolean priced = cents >= 0 && cents <= MOST_CENTS;
        if (!lies || !priced || (kind != BRIDGE && kind != TUNNEL)) {
            return NONE;
        }
        if (spans.count >= MOST_SPANS || spans.sharesStep(from, to)) {
            return NONE;
        }
        forget();
        return spans.append(from, to, kind, cents);
    }

    public boolean drop(int k) {
        if (k < 0 || k >= spans.count) {
            return false;
        }
        spans.takeOut(k);
        forget();
        return true;
    }

    public boolean fixed(int place, int level) {
        if (!site.isPlace(place) || !site.isLevelOrNone(level)) {
            return false;
        }
        site.fixedAt[place] = level;
        forget();
        return true;
    }

    public boolean slopes(int most, int change, int falls) {
        if (most < 1 || most > LIMIT || !within(change, MOST_CHANGE) || !within(falls, most)) {
            return false;
        }
        site.most = most;
        site.change = change;
        site.falls = falls;
        forget();
        return true;
    }

    public int run() {
        forget();
        int barred = reach.firstBarred();
        if (barred != NONE) {
            return -1 - barred;
        }
        Search search = bestSearch();
        search.fillLayers();
        search.trace(table);
        return Integer.bitCount(table.usedBits);
    }

    public int level(int place) {
        if (!table.atHand || !site.isPlace(place)) {
            return NONE;
        }
        return table.levels[place];
    }

    public long cost() {
        return table.atHand ? table.cents : NONE;
    }

    public long other(int k) {
        if (!table.atHand || k < 0 || k >= COSTS) {
            return NONE;
        }
        if (cheapest == null) {
            cheapest = new Search(site, spans, COSTS);
        }
        if (!cheapestKnown) {
            cheapest.fillLayers();
            cheapestKnown = true;
        }
        return cheapest.leastOrNone(k);
    }

    public boolean move(int place, int level) {
        if (!table.atHand || !site.isPlace(place) || !site.isLevelOrNone(level)) {
            return false;
        }
        int before = site.movedTo[place];
        site.movedTo[place] = level;
        if (reach.firstBarred() != NONE) {
            site.movedTo[place] = before;
            return false;
        }
        forget();
        Search search = bestSearch();
        search.fillLayers();
        search.trace(table);
        return true;
    }

    public boolean speed(int v) {
        if (!within(v, THOUSAND)) {
            return false;
        }
        curveSpeed = v;
        return true;
    }

    public int curve(int place, int half) {
        if (!table.atHand || place < 1 || place >= site.last || !within(half, THOUSAND)) {
            return NONE;
        }
        int refusal = half == 0 ? 0 : curveRefusal(place, half);
        if (refusal != 0) {
            return refusal;
        }
        curves.put(place, half);
        return curves.count;
    }

    public long curveAt(int place, int part) {
        if (!table.atHand || place < 1 || place >= site.last || !within(part, PARTS)) {
            return NONE;
        }
        int half = curves.halves[place];
        if (half == 0) {
            return NONE;
        }
        long before = table.slopeOf(place - 1);
        long behind = table.slopeOf(place);
        long rise = 16 * before * part - 64 * before + (behind - before) * part * part;
        return (long) table.levels[place] * CURVE_UNIT + half * rise;
    }

    public boolean lorry(int top, int least, int loss, int gain) {
        boolean speeds = within(top, THOUSAND) && within(least, THOUSAND);
        if (!speeds || !within(loss, THOUSAND) || !within(gain, THOUSAND)) {
            return false;
        }
        driven.top = top;
        driven.least = least;
        driven.loss = loss;
        driven.gain = gain;
        return true;
    }

    public int lane(int k, int what) {
        if (!table.atHand || k < 0 || !within(what, 2)) {
            return NONE;
        }
        return driven.laneFact(table, k, what);
    }

    public int order(int k) {
        if (!table.atHand || !site.isPlace(k)) {
            return NONE;
        }
        for (int place = 0; place <= site.last; place++) {
            if (table.rankOf(place) == k) {
                return place;
            }
        }
        return NONE;
    }

    public int told(int what) {
        if (what == 0) {
            return spans.count;
        }
        if (what == 1) {
            return site.countSet(site.fixedAt);
        }
        if (what == 2) {
            return site.countSet(site.movedTo);
        }
        return table.atHand ? toldOfTable(what) : NONE;
    }

    public boolean keeps() {
        return table.atHand && table.holdsAll();
    }

    private static boolean within(int number, int most) {
        return number >= 0 && number <= most;
    }

    private void forget() {
        table.atHand = false;
        cheapestKnown = false;
        curves.removeAll();
    }

    private Search bestSearch() {
        if (best == null) {
            best = new Search(site, spans, 1);
        }
        return best;
    }

    /** 0 when the curve may stand. */
    private int curveRefusal(int place, int half) {
        if (table.spanOfStep[place - 1] != NONE || table.spanOfStep[place] != NONE) {
            return SPANNED;
        }
        int bend = Math.abs(table.slopeOf(place) - table.slopeOf(place - 1));
        if (bend != 0 && site.isHeld(place)) {
            return HELD;
        }
        if (half < bend * curveSpeed) {
            return TIGHT;
        }
        if (half + curves.greaterNeighbour(place) > THOUSAND) {
            return NEAR;
        }
        return 0;
    }

    private int toldOfTable(int what) {
        switch (what) {
            case 3:
                return table.usedBits;
            case 4:
                return table.sumOfSizes();
            case 5:
                return table.levelsCut();
            case 6:
                return table.levelsFilled();
            case 7:
                return curves.count;
            default:
                return NONE;
        }
    }

    /** The places as they are told: ground, prices, what holds them, and the bounds of slopes. */
    private static final class Site {
        final int last;
        final int top;
        final int[] ground;
        final int[] cut;
        final int[] fill;
        final int[] fixedAt;
        final int[] movedTo;
        int most = 2;
        int change = 1;
        int falls = 0;

        Site(int last, int top) {
            this.last = last;
            this.top = top;
            ground = new int[last + 1];
            cut = new int[last + 1];
            fill = new int[last + 1];
            fixedAt = new int[last + 1];
            movedTo = new int[last + 1];
            Arrays.fill(cut, 1);
            Arrays.fill(fill, 1);
            Arrays.fill(fixedAt, NONE);
            Arrays.fill(movedTo, NONE);
        }

        boolean isPlace(int place) {
            return place >= 0 && place <= last;
        }

        boolean isLevel(int level) {
            return level >= 0 && level <= top;
        }

        boolean isLevelOrNone(int level) {
            return level == NONE || isLevel(level);
        }

        boolean isHeld(int place) {
            return fixedAt[place] != NONE || movedTo[place] != NONE;
        }

        boolean allows(int place, int level) {
            boolean asFixed = fixedAt[place] == NONE || fixedAt[place] == level;
            return asFixed && (movedTo[place] == NONE || movedTo[place] == level);
        }

        boolean slopeFits(int slope) {
            int size = Math.abs(slope);
            return size >= falls && size <= most;
        }

        /** The lowest level that a step of MOST may join with this one. */
        int lowestNear(int level) {
            return Math.max(0, level - most);
        }

        int highestNear(int level) {
            return Math.min(top, level + most);
        }

        boolean changeFits(int slope, int following) {
            return Math.abs(following - slope) <= change;
        }

        long earthCents(int place, int level) {
            int filled = level - ground[place];
            return filled < 0 ? (long) -filled * cut[place] : (long) filled * fill[place];
        }

        int countSet(int[] row) {
            int count = 0;
            for (int place = 0; place < row.length; place++) {
                if (row[place] != NONE) {
                    count++;
                }
            }
            return count;
        }
    }

    /** The spans that are told, by their numbers. */
    private static final class Spans {
        int count = 0;
        final int[] from = new int[MOST_SPANS];
        final int[] to = new int[MOST_SPANS];
        final int[] kind = new int[MOST_SPANS];
        final long[] cents = new long[MOST_SPANS];

        boolean sharesStep(int first, int end) {
            for (int k = 0; k < count; k++) {
                if (first < to[k] && from[k] < end) {
                    return true;
                }
            }
            return false;
        }

        /** Only while there are fewer than MOST_SPANS. */
        int append(int first, int end, int which, long price) {
            from[count] = first;
            to[count] = end;
            kind[count] = which;
            cents[count] = price;
            count++;
            return count - 1;
        }

        void takeOut(int k) {
            for (int i = k; i + 1 < count; i++) {
                from[i] = from[i + 1];
                to[i] = to[i + 1];
                kind[i] = kind[i + 1];
                cents[i] = cents[i + 1];
            }
            count--;
        }

        int startingAt(int place) {
            for (int k = 0; k < count; k++) {
                if (from[k] == place) {
                    return k;
                }
            }
            return NONE;
        }

        boolean anyEndsAt(int place) {
            for (int k = 0; k < count; k++) {
                if (to[k] == place) {
                    return true;
                }
            }
            return false;
        }

        /** Whether span k, with a level at its first place and one slope, suits the places between. */
        boolean suits(Site site, int k, int level, int slope) {
            for (int place = from[k] + 1; place < to[k]; place++) {
                int there = level + slope * (place - from[k]);
                int above = there - site.ground[place];
                boolean clear = kind[k] == BRIDGE ? above >= 0 : above <= 0;
                if (!clear || !site.allows(place, there)) {
                    return false;
                }
            }
            return true;
        }
    }

    /** The table that is found, with the spans that it uses. */
    private static final class Table {
        private final Site site;
        private final Spans spans;
        final int[] levels;
        final int[] spanOfStep;
        boolean atHand = false;
        int usedBits = 0;
        long cents = 0;

        Table(Site site, Spans spans) {
            this.site = site;
            this.spans = spans;
            levels = new int[site.last + 1];
            spanOfStep = new int[site.last];
        }

        int slopeOf(int step) {
            return levels[step + 1] - levels[step];
        }

        boolean isBetween(int place) {
            if (place < 1 || place >= site.last) {
                return false;
            }
            return spanOfStep[place] != NONE && spanOfStep[place] == spanOfStep[place - 1];
        }

        /** The levels filled at a place; below 0 they are cut. */
        int filledAt(int place) {
            return isBetween(place) ? 0 : levels[place] - site.ground[place];
        }

        int levelsFilled() {
            int sum = 0;
            for (int place = 0; place <= site.last; place++) {
                sum += Math.max(0, filledAt(place));
            }
            return sum;
        }

        int levelsCut() {
            int sum = 0;
            for (int place = 0; place <= site.last; place++) {
                sum += Math.max(0, -filledAt(place));
            }
            return sum;
        }

        int sumOfSizes() {
            int sum = 0;
            for (int step = 0; step < site.last; step++) {
                sum += Math.abs(slopeOf(step));
            }
            return sum;
        }

        /** How many places stand before this one by the levels that are cut or filled. */
        int rankOf(int place) {
            int own = Math.abs(filledAt(place));
            int rank = 0;
            for (int rival = 0; rival <= site.last; rival++) {
                int theirs = Math.abs(filledAt(rival));
                if (theirs > own || (theirs == own && rival < place)) {
                    rank++;
                }
            }
            return rank;
        }

        boolean holdsAll() {
            return placesHold() && slopesHold() && spansHold();
        }

        private boolean placesHold() {
            for (int place = 0; place <= site.last; place++) {
                if (!site.isLevel(levels[place]) || !site.allows(place, levels[place])) {
                    return false;
                }
            }
            return true;
        }

        private boolean slopesHold() {
            for (int step = 0; step < site.last; step++) {
                if (!site.slopeFits(slopeOf(step))) {
                    return false;
                }
                if (step > 0 && !site.changeFits(slopeOf(step - 1), slopeOf(step))) {
                    return false;
                }
            }
            return true;
        }

        private boolean spansHold() {
            for (int k = 0; k < spans.count; k++) {
                if ((usedBits >> k & 1) == 1 && !spanHolds(k)) {
                    return false;
                }
            }
            return true;
        }

        private boolean spanHolds(int k) {
            int first = spans.from[k];
            int slope = slopeOf(first);
            for (int step = first; step < spans.to[k]; step++) {
                if (slopeOf(step) != slope) {
                    return false;
                }
            }
            return spans.suits(site, k, levels[first], slope);
        }
    }

    /** Finds the first barred place, from place 0 on. */
    private static final class Reach {
        private final Site site;
        // By level: the slopes of the steps that lead there, a bit each (slope + LIMIT).
        private long[] here;
        private long[] there;

        Reach(Site site) {
            this.site = site;
            here = new long[site.top + 1];
            there = new long[site.top + 1];
        }

        int firstBarred() {
            if (!start()) {
                return 0;
            }
            for (int place = 0; place < site.last; place++) {
                if (!advance(place)) {
                    return place + 1;
                }
            }
            return NONE;
        }

        private boolean start() {
            boolean any = false;
            for (int level = 0; level <= site.top; level++) {
                boolean open = site.allows(0, level);
                // No step leads to place 0, so that any slope may follow.
                here[level] = open ? -1L : 0L;
                any |= open;
            }
            return any;
        }

        private boolean advance(int place) {
            Arrays.fill(there, 0L);
            boolean any = false;
            for (int level = 0; level <= site.top; level++) {
                long follow = here[level] == 0L ? 0L : widened(here[level]);
                int highest = site.highestNear(level);
                for (int next = site.lowestNear(level); next <= highest; next++) {
                    long bit = 1L << (next - level + LIMIT);
                    if ((follow & bit) != 0L && canStep(place, level, next)) {
                        there[next] |= bit;
                        any = true;
                    }
                }
            }
            long[] spare = here;
            here = there;
            there = spare;
            return any;
        }

        private boolean canStep(int place, int level, int next) {
            return site.slopeFits(next - level) && site.allows(place + 1, next);
        }

        private long widened(long bits) {
            long wide = bits;
            for (int by = 1; by <= site.change; by++) {
                wide |= bits << by | bits >>> by;
            }
            return wide;
        }
    }

    /**
     * Goes from the last place to the first: the least values that the rest of a table can have
     * behind each step that leads to a place. A used span is one long step, so that no place
     * between its ends needs to know of it.
     */
    private static final class Search {
        private static final long NO_WAY = 1L << 60;
        // Above every sum of sizes (24 * 24), which orders tables of the same cost.
        private static final long TIE_ROOM = 1024L;
        private static final int KEPT_SLOT = 2;

        private final Site site;
        private final Spans spans;
        private final int width;
        private final int ways;
        private final boolean traced;
        private final long costUnit;
        private final long sizeUnit;
        private final long[][] layers;
        private final long[] leaving;
        private final long[] least;
        private int startLevel = 0;

        /** With one way: values tell cost and sizes, and can be traced; with more: costs alone. */
        Search(Site site, Spans spans, int ways) {
            this.site = site;
            this.spans = spans;
            this.ways = ways;
            width = site.top + 1;
            traced = ways == 1;
            costUnit = traced ? TIE_ROOM : 1L;
            sizeUnit = traced ? 1L : 0L;
            layers = new long[traced ? site.last + 1 : KEPT_SLOT + 1][width * width * ways];
            leaving = new long[width * ways];
            least = new long[ways];
        }

        void fillLayers() {
            for (int place = site.last; place >= 1; place--) {
                fillLayer(place);
                if (!traced && spans.anyEndsAt(place)) {
                    keepLayer(place);
                }
            }
            fillLeast();
        }

        long leastOrNone(int k) {
            return least[k] >= NO_WAY ? NONE : least[k];
        }

        private int slotOf(int place) {
            return traced ? place : place & 1;
        }

        // Spans have no step in common, so that the layer of one end at a time is enough.
        private int slotOfEnd(int place) {
            return traced ? place : KEPT_SLOT;
        }

        private void keepLayer(int place) {
            long[] layer = layers[slotOf(place)];
            System.arraycopy(layer, 0, layers[KEPT_SLOT], 0, layer.length);
        }

        private int indexOf(int level, int before) {
            return (level * width + before) * ways;
        }

        private void fillLayer(int place) {
            long[] layer = layers[slotOf(place)];
            Arrays.fill(layer, NO_WAY);
            for (int level = 0; level < width; level++) {
                if (!site.allows(place, level)) {
                    continue;
                }
                if (place == site.last) {
                    fillLast(layer, level);
                } else {
                    fillLeaving(place, level);
                    fillStates(layer, level);
                }
            }
        }

        private void fillLast(long[] layer, int level) {
            long value = earthValue(site.last, level);
            int highest = site.highestNear(level);
            for (int before = site.lowestNear(level); before <= highest; before++) {
                if (site.slopeFits(level - before)) {
                    layer[indexOf(level, before)] = value;
                }
            }
        }

        private void fillStates(long[] layer, int level) {
            int bottom = site.lowestNear(level);
            int top = site.highestNear(level);
            int from = NONE;
            int to = NONE;
            int latest = NONE;
            for (int before = bottom; before <= top; before++) {
                if (!site.slopeFits(level - before)) {
                    continue;
                }
                int at = indexOf(level, before);
                int straight = level + level - before;
                int lowest = Math.max(bottom, straight - site.change);
                int highest = Math.min(top, straight + site.change);
                // With a wide CHANGE most levels before have the same next ones.
                if (lowest == from && highest == to) {
                    System.arraycopy(layer, latest, layer, at, ways);
                } else {
                    gather(layer, at, lowest, highest);
                }
                from = lowest;
                to = highest;
                latest = at;
            }
        }

        private void gather(long[] layer, int at, int lowest, int highest) {
            for (int next = lowest; next <= highest; next++) {
                merge(layer, at, leaving, next * ways, 0L);
            }
        }

        private void fillLeast() {
            Arrays.fill(least, NO_WAY);
            for (int level = 0; level < width; level++) {
                if (!site.allows(0, level)) {
                    continue;
                }
                long before = least[0];
                fillLeaving(0, level);
                gather(least, 0, site.lowestNear(level), site.highestNear(level));
                if (least[0] < before) {
                    startLevel = level;
                }
            }
        }

        private void fillLeaving(int place, int level) {
            Arrays.fill(leaving, NO_WAY);
            int k = spans.startingAt(place);
            int highest = site.highestNear(level);
            for (int next = site.lowestNear(level); next <= highest; next++) {
                if (site.slopeFits(next - level)) {
                    addStep(place, level, next);
                    addSpan(k, level, next);
                }
            }
        }

        private long earthValue(int place, int level) {
            return costUnit * site.earthCents(place, level);
        }

        private void addStep(int place, int level, int next) {
            long more = earthValue(place, level) + sizeUnit * Math.abs(next - level);
            merge(leaving, next * ways, layers[slotOf(place + 1)], indexOf(next, level), more);
        }

        private void addSpan(int k, int level, int next) {
            if (k == NONE) {
                return;
            }
            int slope = next - level;
            int length = spans.to[k] - spans.from[k];
            int end = level + slope * length;
            if (!site.isLevel(end) || !spans.suits(site, k, level, slope)) {
                return;
            }
            long more = earthValue(spans.from[k], level) + costUnit * spans.cents[k]
                    + sizeUnit * length * Math.abs(slope);
            long[] layer = layers[slotOfEnd(spans.to[k])];
            merge(leaving, next * ways, layer, indexOf(end, end - slope), more);
        }

        /** Merges values, each and more, in rising order, into others, each once. */
        private void merge(long[] into, int at, long[] values, int from, long more) {
            for (int i = 0; i < ways; i++) {
                long value = values[from + i];
                if (value >= NO_WAY || value + more > into[at + ways - 1]) {
                    return;
                }
                insert(into, at, value + more);
            }
        }

        private void insert(long[] into, int at, long value) {
            int last = at + ways - 1;
            int here = at;
            while (here < last && into[here] < value) {
                here++;
            }
            if (into[here] == value) {
                return;
            }
            for (int i = last; i > here; i--) {
                into[i] = into[i - 1];
            }
            into[here] = value;
        }

        /** Only with one way, filled, and without a barred place: then there is a best table. */
        void trace(Table table) {
            table.levels[0] = startLevel;
            table.usedBits = 0;
            table.cents = least[0] / TIE_ROOM;
            table.atHand = true;
            int place = 0;
            for (int steps = 0; steps < site.last && place < site.last; steps++) {
                place = traceFrom(table, place);
            }
        }

        /** Takes the lowest next level that keeps the least value, without a span if it can. */
        private int traceFrom(Table table, int place) {
            int level = table.levels[place];
            int k = spans.startingAt(place);
            long wanted = wantedAt(table, place);
            Arrays.fill(leaving, NO_WAY);
            int highest = site.highestNear(level);
            for (int next = site.lowestNear(level); next <= highest; next++) {
                if (!mayFollow(table, place, next)) {
                    continue;
                }
                addStep(place, level, next);
                if (leaving[next] == wanted) {
                    return lay(table, place, place + 1, next - level, NONE);
                }
                addSpan(k, level, next);
                if (k != NONE && leaving[next] == wanted) {
                    table.usedBits |= 1 << k;
                    return lay(table, place, spans.to[k], next - level, k);
                }
            }
            return site.last;
        }

        private long wantedAt(Table table, int place) {
            if (place == 0) {
                return least[0];
            }
            return layers[place][indexOf(table.levels[place], table.levels[place - 1])];
        }

        private boolean mayFollow(Table table, int place, int next) {
            int slope = next - table.levels[place];
            if (!site.slopeFits(slope)) {
                return false;
            }
            return place == 0 || site.changeFits(table.slopeOf(place - 1), slope);
        }

        private int lay(Table table, int from, int to, int slope, int k) {
            for (int step = from; step < to; step++) {
                table.levels[step + 1] = table.levels[step] + slope;
                table.spanOfStep[step] = k;
            }
            return to;
        }
    }

    /** The halves of the curves at the places, 0 where there is none. */
    private static final class Curves {
        final int[] halves;
        int count = 0;

        Curves(int last) {
            halves = new int[last + 1];
        }

        void put(int place, int half) {
            if (halves[place] != 0) {
                count--;
            }
            if (half != 0) {
                count++;
            }
            halves[place] = half;
        }

        void removeAll() {
            Arrays.fill(halves, 0);
            count = 0;
        }

        /** Only for places that have one before and one behind them. */
        int greaterNeighbour(int place) {
            return Math.max(halves[place - 1], halves[place + 1]);
        }
    }

    /** A slow lorry, and the lanes that it needs. */
    private static final class Lorry {
        int top = 80;
        int least = 50;
        int loss = 10;
        int gain = 5;

        private int speedBehind(int before, int slope) {
            if (slope > 0) {
                return Math.max(0, before - slope * loss);
            }
            return Math.min(top, before + (1 - slope) * gain);
        }

        /** Of lane k its first place (what 0), its last one (1), or its least speed (2). */
        int laneFact(Table table, int k, int what) {
            int lane = NONE;
            int first = NONE;
            int end = NONE;
            int slowest = NONE;
            int now = top;
            boolean slow = false;
            for (int place = 0; place < table.levels.length; place++) {
                now = place == 0 ? top : speedBehind(now, table.slopeOf(place - 1));
                boolean wasSlow = slow;
                slow = now < least;
                if (slow && !wasSlow) {
                    lane++;
                }
                if (slow && lane == k) {
                    first = wasSlow ? first : place;
                    end = place;
                    slowest = wasSlow ? Math.min(slowest, now) : now;
                }
            }
            if (what == 0) {
                return first;
            }
            return what == 1 ? end : slowest;
        }
    }
}
