import java.lang.reflect.InvocationTargetException;
import java.lang.reflect.Method;
import java.util.ArrayList;
import java.util.HashMap;
import java.util.List;
import java.util.Map;

/**
 * A test for each sentence of the document that names a boundary case: the last number that is
 * allowed, the first that is not, the least and the greatest int and long, and behind each refused
 * call that nothing has changed. Calls are written as texts, in which MIN and MAX are the least and
 * the greatest number of the parameter's type; a boolean counts 1 or 0.
 */
public final class Edges {
    private static final int MOST_CALLS = 512;
    private static final int NONE = -1;
    private static final int TIGHT = -2;
    private static final int NEAR = -3;
    private static final int HELD = -4;
    private static final int SPANNED = -5;
    private static final Map<String, Method> METHODS = new HashMap<>();
    private static String sentence = "";
    private static int wrong = 0;

    public static void main(String[] args) {
        for (Method method : LevelTables.class.getDeclaredMethods()) {
            METHODS.put(method.getName(), method);
        }
        theSites();
        newObject();
        telling();
        spansTold();
        slopesTold();
        tables();
        costs();
        ties();
        moves();
        curves();
        lorries();
        ordersAndCounts();
        forgetting();
        extremes();
        System.out.println(wrong == 0 ? "all answers are as due" : wrong + " answers are not as due");
        if (wrong != 0) {
            System.exit(1);
        }
    }

    // ---- how calls are made and looked at

    private static void fault(String what) {
        wrong++;
        System.out.println(sentence + ": " + what);
    }

    /** An object, and how often it has been called: what calls behind the 512th answer is free. */
    private static final class Road {
        private final LevelTables x;
        private int calls = 0;

        Road(int steps, int levels) {
            x = new LevelTables(steps, levels);
        }

        long call(String text) {
            calls++;
            if (calls > MOST_CALLS) {
                throw new IllegalStateException("the test itself makes too many calls");
            }
            int open = text.indexOf('(');
            Method method = METHODS.get(text.substring(0, open));
            String inside = text.substring(open + 1, text.length() - 1);
            Class<?>[] types = method.getParameterTypes();
            String[] words = types.length == 0 ? new String[0] : inside.split(", ");
            Object[] numbers = new Object[types.length];
            for (int i = 0; i < types.length; i++) {
                numbers[i] = types[i] == long.class ? (Object) asLong(words[i]) : (Object) asInt(words[i]);
            }
            try {
                Object answer = method.invoke(x, numbers);
                return answer instanceof Boolean yes ? (yes ? 1 : 0) : ((Number) answer).longValue();
            } catch (InvocationTargetException e) {
                fault(text + " threw " + e.getCause());
                return Long.MIN_VALUE;
            } catch (IllegalAccessException e) {
                throw new IllegalStateException(e);
            }
        }

        Road told(String... texts) {
            for (String text : texts) {
                call(text);
            }
            return this;
        }

        Road due(String text, long want) {
            long got = call(text);
            if (got != want) {
                fault(text + " answered " + got + ", due is " + want);
            }
            return this;
        }

        /** The answers of name(0), name(1) and so on. */
        Road row(String name, long... wants) {
            for (int i = 0; i < wants.length; i++) {
                due(name + "(" + i + ")", wants[i]);
            }
            return this;
        }

        Road noTable() {
            due("cost()", NONE).due("level(0)", NONE).due("keeps()", 0).due("told(7)", NONE);
            return due("other(0)", NONE).due("order(0)", NONE).due("told(3)", NONE);
        }
    }

    private static int asInt(String word) {
        return word.equals("MIN") ? Integer.MIN_VALUE : word.equals("MAX") ? Integer.MAX_VALUE : Integer.parseInt(word);
    }

    private static long asLong(String word) {
        return word.equals("MIN") ? Long.MIN_VALUE : word.equals("MAX") ? Long.MAX_VALUE : Long.parseLong(word);
    }

    /** How an object is made and what it is told, so that it can be made more than once. */
    private record Site(int steps, int levels, String... calls) {
        Road made() {
            return new Road(steps, levels).told(calls);
        }

        Site and(String... more) {
            String[] all = new String[calls.length + more.length];
            System.arraycopy(calls, 0, all, 0, calls.length);
            System.arraycopy(more, 0, all, calls.length, more.length);
            return new Site(steps, levels, all);
        }
    }

    private static final int LAST = 8;
    private static final int TOP = 6;
    private static final Site HILLS = new Site(LAST, TOP, "slopes(2, 4, 0)",
            "ground(1, 2)", "ground(2, 3)", "ground(3, 3)", "ground(4, 6)", "ground(5, 6)", "ground(6, 3)",
            "ground(7, 2)", "prices(0, 3, 2)", "prices(1, 4, 3)", "prices(2, 5, 4)", "prices(3, 6, 5)",
            "prices(4, 7, 6)", "prices(5, 8, 7)", "prices(6, 9, 8)", "prices(7, 10, 9)", "prices(8, 11, 10)",
            "span(3, 6, 1, 4)", "span(0, 2, 0, 50)", "span(6, 8, 1, 70)", "fixed(8, 0)", "speed(100)",
            "lorry(80, 65, 10, 5)");
    /** With a used span, a place moved, two curves and a lane. */
    private static final Site TABLE = HILLS.and("run()", "move(7, 1)", "curve(1, 300)", "curve(2, 500)");
    private static final Site BARRED = HILLS.and("run()", "move(7, 1)", "fixed(7, 2)", "run()");

    private static List<String> look(int n) {
        List<String> calls = new ArrayList<>(List.of("cost()", "keeps()"));
        each(calls, n, "level(#)", "order(#)", "curveAt(#, 0)", "curveAt(#, 5)");
        for (int what = 0; what < 8; what++) {
            calls.add("told(" + what + ")");
        }
        for (int k = 0; k < 6; k++) {
            calls.add("other(" + k + ")");
            calls.add("lane(" + k / 3 + ", " + k % 3 + ")");
        }
        return calls;
    }

    /** The texts with 0 .. most, one after another, in the place of #. */
    private static void each(List<String> calls, int most, String... texts) {
        for (int number = 0; number <= most; number++) {
            for (String text : texts) {
                calls.add(text.replace("#", "" + number));
            }
        }
    }

    /** Calls that change an object until all that it was told has shown itself. */
    private static List<String> dig(int n, int m) {
        List<String> calls = look(n);
        calls.add("run()");
        each(calls, n, "level(#)");
        each(calls, n, "fixed(#, -1)");
        calls.addAll(List.of("run()", "cost()"));
        each(calls, n, "level(#)", "move(#, -1)");
        calls.add("fixed(0, " + m / 2 + ")");
        each(calls, m, "fixed(1, #)", "run()");
        calls.addAll(List.of("fixed(0, 0)", "fixed(1, 2)"));
        each(calls, m, "fixed(2, #)", "run()");
        calls.addAll(List.of("fixed(0, -1)", "fixed(1, -1)", "fixed(2, -1)", "slopes(24, 48, 0)", "run()"));
        each(calls, n, "level(#)");
        each(calls, n, "ground(#, " + m / 2 + ")", "fixed(#, 0)", "run()", "cost()", "fixed(#, " + m + ")", "run()",
                "cost()", "fixed(#, -1)");
        digForSpans(calls, n);
        each(calls, n, "fixed(#, -1)", "ground(#, 0)");
        calls.addAll(List.of("ground(2, 1)", "ground(3, 1)", "ground(5, " + m + ")", "run()", "cost()"));
        calls.addAll(List.of("curve(1, 99)", "curve(1, 100)", "lane(0, 0)", "lane(0, 1)", "lane(0, 2)"));
        return calls;
    }

    private static void digForSpans(List<String> calls, int n) {
        List<String> facts = List.of("run()", "told(3)", "cost()", "other(1)", "other(2)", "other(3)");
        each(calls, n, "prices(#, 1000, 1000)", "ground(#, 0)", "fixed(#, 1)");
        calls.addAll(facts);
        each(calls, n, "ground(#, 1)", "fixed(#, 0)");
        calls.addAll(facts);
        for (int k = 0; k < 6; k++) {
            calls.add("drop(0)");
            calls.addAll(facts.subList(0, 3));
        }
    }

    /** The first call to which both do not answer alike, or null. */
    private static String firstUnlike(Road one, Road another, List<String> calls) {
        for (String text : calls) {
            long first = one.call(text);
            long second = another.call(text);
            if (first != second) {
                return text + " answers " + first + ", else " + second;
            }
        }
        return null;
    }

    /** The call is answered so, and nothing has changed: an object without that call is like it. */
    private static void refused(Site site, String text, long answer) {
        Road with = site.made().due(text, answer);
        String unlike = firstUnlike(with, site.made(), dig(site.steps(), site.levels()));
        if (unlike != null) {
            fault(text + " was refused, but behind it " + unlike);
        }
    }

    /** Numbers next to a range and far from it, in the place of #, are refused. */
    private static void outside(Site site, String text, long least, long most, long answer) {
        for (long number : new long[] {least - 1, least - 2, most + 1, most + 2}) {
            refused(site, text.replace("#", "" + number), answer);
        }
        refused(site, text.replace("#", "MIN"), answer);
        refused(site, text.replace("#", "MAX"), answer);
    }

    private static void outside(String text, long least, long most, long answer) {
        outside(HILLS, text, least, most, answer);
        outside(TABLE, text, least, most, answer);
        outside(BARRED, text, least, most, answer);
    }

    /** The ends of a range, in the place of #, are not refused. */
    private static void inside(Site site, String text, long least, long most, long answer) {
        site.made().due(text.replace("#", "" + least), answer);
        site.made().due(text.replace("#", "" + most), answer);
    }

    private static void theSites() {
        sentence = "the tests' own sites";
        Road x = TABLE.made().due("cost()", 14).due("keeps()", 1).row("told", 3, 1, 1, 1, 6, 1, 0, 2);
        x.row("level", 0, 2, 3, 3, 3, 3, 3, 1, 0).due("lane(0, 0)", 1).due("lane(0, 1)", 4).due("lane(1, 0)", NONE);
        BARRED.made().noTable().due("told(2)", 1);
        HILLS.made().noTable();
        theDigging();
    }

    /** What is told in another way must show itself: else a refused call could hide a change. */
    private static void theDigging() {
        List<String> changes = new ArrayList<>(List.of("slopes(3, 4, 0)", "slopes(1, 4, 0)", "slopes(2, 3, 0)",
                "slopes(2, 1, 0)", "slopes(2, 4, 1)", "speed(99)", "speed(101)", "lorry(81, 65, 10, 5)",
                "lorry(80, 90, 10, 5)", "lorry(80, 65, 11, 5)", "lorry(80, 65, 10, 4)"));
        for (int p = 0; p <= LAST; p++) {
            changes.add("ground(" + p + ", 1)");
            changes.add("ground(" + p + ", 4)");
            changes.add("prices(" + p + ", " + (4 + p) + ", " + (2 + p) + ")");
            changes.add("prices(" + p + ", " + (3 + p) + ", " + (1 + p) + ")");
            changes.add("fixed(" + p + ", 1)");
        }
        for (String change : changes) {
            differs(HILLS, HILLS.and(change), change);
        }
        differs(TABLE, HILLS.and("run()", "move(6, 1)", "curve(1, 300)", "curve(2, 500)"), "another move");
        for (int k = 0; k < 3; k++) {
            String[] spans = {"span(3, 6, 1, 4)", "span(0, 2, 0, 50)", "span(6, 8, 1, 70)"};
            Site less = HILLS.and("drop(" + k + ")");
            differs(HILLS, less, "a span less");
            differs(less.and(spans[k]), less.and(spans[k].substring(0, spans[k].length() - 1) + "1)"), "cents");
        }
        differs(HILLS.and("drop(0)", "span(3, 6, 1, 4)"), HILLS.and("drop(0)", "span(3, 6, 0, 4)"), "a kind");
        differs(HILLS.and("drop(0)", "span(3, 6, 1, 4)"), HILLS.and("drop(0)", "span(3, 5, 1, 4)"), "an end");
        differs(HILLS, HILLS.and("drop(0)", "span(3, 6, 1, 4)"), "another order");
    }

    private static void differs(Site one, Site another, String change) {
        if (firstUnlike(one.made(), another.made(), dig(one.steps(), one.levels())) == null) {
            fault("digging does not show " + change);
        }
    }

    // ---- promise 1

    private static void newObject() {
        sentence = "Promise 1: n is steps, but 2 when that is less and 24 when it is more";
        int[][] steps = {{Integer.MIN_VALUE, 2}, {-1, 2}, {0, 2}, {1, 2}, {2, 2}, {3, 3}, {23, 23}, {24, 24},
            {25, 24}, {26, 24}, {Integer.MAX_VALUE, 24}};
        for (int[] one : steps) {
            lastPlace(new Road(one[0], 5), one[1]);
        }
        sentence = "Promise 1: m is levels, but 1 to 24 likewise";
        int[][] levels = {{Integer.MIN_VALUE, 1}, {-1, 1}, {0, 1}, {1, 1}, {2, 2}, {23, 23}, {24, 24}, {25, 24},
            {26, 24}, {Integer.MAX_VALUE, 24}};
        for (int[] one : levels) {
            topLevel(new Road(2, one[0]), one[1]);
        }
        atFirst();
    }

    private static void lastPlace(Road x, int n) {
        int behind = n + 1;
        x.due("ground(" + n + ", 1)", 1).due("ground(" + behind + ", 1)", 0);
        x.due("prices(" + n + ", 2, 2)", 1).due("prices(" + behind + ", 2, 2)", 0);
        x.due("fixed(" + n + ", 3)", 1).due("fixed(" + behind + ", 3)", 0);
        x.due("span(" + (n - 2) + ", " + behind + ", 0, 9)", NONE).due("span(" + (n - 2) + ", " + n + ", 0, 9)", 0);
        x.due("run()", 0).due("level(" + n + ")", 3).due("level(" + behind + ")", NONE);
        x.due("order(" + behind + ")", NONE).due("curve(" + n + ", 0)", NONE).due("curve(" + (n - 1) + ", 0)", 0);
        x.due("move(" + behind + ", 3)", 0).due("move(" + n + ", 3)", 1).due("told(1)", 1);
        int seen = 0;
        for (int k = 0; k <= n; k++) {
            seen |= 1 << x.call("order(" + k + ")");
        }
        if (seen != (1 << n + 1) - 1) {
            fault("order does not go over all places 0 .. " + n);
        }
    }

    private static void topLevel(Road x, int m) {
        int above = m + 1;
        x.due("slopes(24, 48, 0)", 1);
        x.due("ground(0, " + m + ")", 1).due("ground(0, " + above + ")", 0);
        x.due("run()", 0).row("level", m, 0, 0);
        x.due("fixed(1, " + m + ")", 1).due("fixed(1, " + above + ")", 0);
        x.due("run()", 0).row("level", m, m, 0);
        x.due("move(2, " + above + ")", 0).due("move(2, " + m + ")", 1).row("level", m, m, m);
        x.due("slopes(24, 48, " + Math.min(24, above) + ")", 1).due("fixed(1, -1)", 1);
        // With FALLS above m no step keeps; at m itself one goes from the top to 0.
        x.due("run()", m < 24 ? -2 : 0).due("slopes(24, 48, " + m + ")", 1).due("run()", 0).row("level", m, 0, m);
    }

    private static void atFirst() {
        sentence = "Terms: a GROUND, a level, at first 0";
        new Road(3, 2).due("run()", 0).row("level", 0, 0, 0, 0).due("cost()", 0).row("order", 0, 1, 2, 3);
        sentence = "Terms: two prices, at first 1 each";
        new Road(2, 3).told("fixed(0, 1)", "fixed(1, 2)", "fixed(2, 3)", "run()").due("cost()", 6);
        new Road(2, 3).told("ground(0, 3)", "ground(1, 2)", "ground(2, 1)", "fixed(0, 0)", "fixed(1, 0)",
                "fixed(2, 0)", "run()").due("cost()", 6);
        sentence = "Terms: At first MOST is 2, CHANGE 1, FALLS 0";
        slopesHold(new Road(2, 9), 2, 1, 0);
        sentence = "Terms: The SPEED is 0 .. 1000, at first 0";
        Site bend = new Site(2, 4, "slopes(2, 4, 0)", "fixed(0, 2)", "fixed(2, 2)", "ground(0, 2)", "ground(2, 2)");
        bend.and("run()").made().row("level", 2, 0, 2).due("curve(1, 1)", 1);
        bend.and("speed(1)", "run()").made().due("curve(1, 3)", TIGHT).due("curve(1, 4)", 1);
        sentence = "Terms: A LORRY .. at first 80, 50, 10, 5";
        Road x = new Road(5, 20).told("slopes(4, 8, 0)", "fixed(0, 0)", "fixed(1, 3)", "fixed(2, 4)", "fixed(3, 3)");
        // 80 50 40 50 55 60
        x.told("fixed(4, 3)", "fixed(5, 3)", "run()").due("lane(0, 0)", 2).due("lane(0, 1)", 2);
        x.due("lane(0, 2)", 40).due("lane(1, 0)", NONE);
        // 80 20 25 30 35 40 45 50 55
        lane(road(0, 6, 6, 6, 6, 6, 6, 6, 6).made(), 0, 1, 6, 20).due("lane(1, 0)", NONE);
        sentence = "Terms: There is a table at hand behind run() or move()";
        new Road(3, 3).noTable().row("told", 0, 0, 0).due("move(0, 0)", 0).due("run()", 0).due("keeps()", 1);
    }

    // ---- promises 2, 3, 6

    private static void telling() {
        sentence = "Promise 2: False: no such place or level (place)";
        outside("ground(#, 1)", 0, LAST, 0);
        inside(TABLE, "ground(#, 1)", 0, LAST, 1);
        sentence = "Promise 2: False: no such place or level (level)";
        outside("ground(4, #)", 0, TOP, 0);
        inside(TABLE, "ground(4, #)", 0, TOP, 1);
        refused(TABLE, "ground(-1, -1)", 0);
        refused(TABLE, "ground(MIN, MAX)", 0);
        new Road(2, 9).told("slopes(24, 48, 0)").due("ground(0, 9)", 1).due("ground(2, 9)", 1).due("run()", 0)
                .row("level", 9, 0, 9).due("ground(2, 0)", 1).due("run()", 0).row("level", 9, 0, 0);

        sentence = "Promise 3: False: no such place, or price (place)";
        outside("prices(#, 1, 1)", 0, LAST, 0);
        inside(TABLE, "prices(#, 1, 1)", 0, LAST, 1);
        sentence = "Promise 3: False: no such place, or price (cut, 0 .. 1,000,000 cents)";
        outside("prices(4, #, 1)", 0, 1000000, 0);
        inside(TABLE, "prices(4, #, 1)", 0, 1000000, 1);
        sentence = "Promise 3: False: no such place, or price (fill, 0 .. 1,000,000 cents)";
        outside("prices(4, 1, #)", 0, 1000000, 0);
        inside(TABLE, "prices(4, 1, #)", 0, 1000000, 1);
        refused(TABLE, "prices(9, -1, 1000001)", 0);
        Road x = new Road(2, 4).told("ground(0, 4)", "ground(1, 2)", "fixed(0, 2)", "fixed(1, 2)", "fixed(2, 2)");
        x.due("prices(0, 1000000, 0)", 1).due("prices(2, 0, 1000000)", 1).due("run()", 0).due("cost()", 4000000);
        x.due("prices(0, 0, 1000000)", 1).due("prices(2, 1000000, 0)", 1).due("run()", 0).due("cost()", 0);

        sentence = "Promise 6: False: no such place or level (place)";
        outside("fixed(#, 1)", 0, LAST, 0);
        outside("fixed(#, -1)", 0, LAST, 0);
        inside(TABLE, "fixed(#, 1)", 0, LAST, 1);
        inside(TABLE, "fixed(#, -1)", 0, LAST, 1);
        sentence = "Promise 6: False: no such place or level (level, or NONE)";
        outside("fixed(4, #)", NONE, TOP, 0);
        outside("fixed(8, #)", NONE, TOP, 0);
        inside(TABLE, "fixed(4, #)", NONE, TOP, 1);
        sentence = "Promise 6: A place is fixed at a level; not fixed, for NONE";
        Road y = new Road(2, 9).told("slopes(24, 48, 0)").due("fixed(0, 9)", 1).due("fixed(1, 0)", 1);
        y.due("told(1)", 2).due("fixed(0, 9)", 1).due("told(1)", 2).due("run()", 0).row("level", 9, 0, 0);
        y.due("fixed(1, -1)", 1).due("told(1)", 1).due("fixed(0, -1)", 1).due("fixed(0, -1)", 1).due("told(1)", 0);
        y.due("run()", 0).row("level", 0, 0, 0);
    }

    // ---- promises 4, 5 and what "Terms" says of spans

    private static void spansTold() {
        sentence = "Promise 4: NONE: there are 6";
        Site five = new Site(14, 3, "ground(1, 3)", "span(10, 12, 0, 1)", "span(8, 10, 1, 1)", "span(6, 8, 0, 1)",
                "span(4, 6, 0, 1)", "span(2, 4, 0, 1)");
        five.made().due("told(0)", 5).due("span(0, 2, 1, 1)", 5).due("told(0)", 6).due("run()", 1)
                .due("span(12, 14, 0, 1)", NONE).due("told(0)", 6).due("cost()", 1).due("told(3)", 32)
                .due("drop(4)", 1).due("span(12, 14, 0, 1)", 5).due("span(2, 4, 0, 1)", NONE).due("told(0)", 6);
        Site six = five.and("span(0, 2, 1, 1)");
        refused(six, "span(12, 14, 0, 0)", NONE);
        refused(six.and("run()", "move(5, 1)", "curve(13, 7)"), "span(12, 14, 1, 1000)", NONE);
        sixOfSix();

        sentence = "Promise 4: NONE: from is below 0";
        Site free = new Site(LAST, TOP, "ground(4, 5)");
        Site found = free.and("run()", "curve(1, 9)");
        for (String from : new String[] {"-1", "-2", "-24", "MIN", "-2147483647", "-2147483646"}) {
            refused(free, "span(" + from + ", 2, 0, 0)", NONE);
            refused(found, "span(" + from + ", 8, 1, 7)", NONE);
        }
        free.made().due("span(0, 2, 0, 0)", 0);
        sentence = "Promise 4: NONE: to above n";
        for (String to : new String[] {"9", "10", "24", "25", "MAX", "2147483646"}) {
            refused(free, "span(6, " + to + ", 0, 0)", NONE);
            refused(found, "span(0, " + to + ", 1, 7)", NONE);
        }
        free.made().due("span(6, 8, 0, 0)", 0);
        free.made().due("span(0, 8, 1, 0)", 0);
        sentence = "Promise 4: NONE: to less than two places behind from";
        for (String to : new String[] {"4", "3", "2", "1", "0", "-1", "MIN", "-2147483647"}) {
            refused(free, "span(3, " + to + ", 0, 0)", NONE);
            refused(found, "span(3, " + to + ", 1, 7)", NONE);
        }
        refused(found, "span(7, 8, 0, 0)", NONE);
        refused(found, "span(8, 8, 0, 0)", NONE);
        refused(found, "span(8, 10, 0, 0)", NONE);
        refused(found, "span(9, 11, 0, 0)", NONE);
        refused(found, "span(MAX, MIN, 0, 0)", NONE);
        refused(found, "span(MAX, -2147483647, 0, 0)", NONE);
        refused(found, "span(MIN, MAX, 0, 0)", NONE);
        refused(found, "span(MAX, MAX, 0, 0)", NONE);
        free.made().due("span(3, 5, 0, 0)", 0);

        sentence = "Promise 4: NONE: no such kind";
        outside(free, "span(3, 6, #, 0)", 0, 1, NONE);
        outside(found, "span(3, 6, #, 0)", 0, 1, NONE);
        inside(found, "span(3, 6, #, 0)", 0, 1, 0);
        sentence = "Promise 4: NONE: cents not 0 .. 1,000,000,000";
        outside(free, "span(3, 6, 0, #)", 0, 1000000000L, NONE);
        outside(found, "span(3, 6, 1, #)", 0, 1000000000L, NONE);
        // Numbers whose lower half alone would be a price.
        for (long cents : new long[] {1L << 32, (1L << 32) + 5, -(1L << 32), 5 - (1L << 32), 1L << 62}) {
            refused(found, "span(3, 6, 1, " + cents + ")", NONE);
        }
        inside(found, "span(3, 6, 1, #)", 0, 1000000000L, 0);
        stepsInCommon();
        dropped();
        spansUsed();
    }

    private static void sixOfSix() {
        sentence = "Promise 8: how many spans it uses (6)";
        Road x = new Road(12, 9);
        for (int k = 0; k < 6; k++) {
            x.told("ground(" + (2 * k + 1) + ", 9)");
            x.due("span(" + 2 * k + ", " + (2 * k + 2) + ", 1, 8)", k);
        }
        x.due("run()", 6).due("told(3)", 63).due("cost()", 48).due("keeps()", 1);
        x.due("other(1)", 49).due("drop(2)", 1).due("run()", 5).due("told(3)", 31).due("cost()", 49);
    }

    private static void stepsInCommon() {
        sentence = "Promise 4: NONE: it has a step with another one in common";
        Site site = new Site(LAST, TOP, "ground(3, 6)", "ground(4, 6)", "span(2, 5, 1, 1)");
        for (String ends : new String[] {"2, 5", "1, 3", "0, 3", "4, 6", "4, 8", "2, 4", "3, 5", "1, 6", "0, 8",
            "2, 8", "0, 5", "1, 5", "2, 6"}) {
            refused(site, "span(" + ends + ", 0, 0)", NONE);
            refused(site.and("run()", "curve(7, 3)"), "span(" + ends + ", 1, 5)", NONE);
        }
        refused(site.and("span(5, 7, 1, 1)", "run()"), "span(6, 8, 1, 5)", NONE);
        refused(site.and("span(6, 8, 1, 1)", "run()"), "span(5, 7, 1, 5)", NONE);
        sentence = "Terms: two may have an end in common, but no step";
        site.made().due("span(0, 2, 0, 0)", 1).due("span(5, 7, 1, 0)", 2).due("told(0)", 3);
        site.made().due("span(5, 8, 0, 0)", 1).due("span(0, 2, 1, 0)", 2).due("told(0)", 3);
        site.made().due("drop(0)", 1).due("span(3, 8, 0, 0)", 0).due("span(2, 4, 0, 0)", NONE).due("span(1, 3, 0, 0)", 1);
    }

    private static void dropped() {
        sentence = "Promise 5: False: there is none";
        for (String k : new String[] {"-1", "3", "4", "5", "6", "MIN", "MAX"}) {
            refused(HILLS, "drop(" + k + ")", 0);
            refused(TABLE, "drop(" + k + ")", 0);
        }
        refused(new Site(LAST, TOP, "run()"), "drop(0)", 0);
        refused(HILLS.and("drop(2)", "drop(0)", "run()"), "drop(1)", 0);
        refused(HILLS.and("drop(2)", "drop(0)", "drop(0)", "run()"), "drop(0)", 0);
        inside(TABLE, "drop(#)", 0, 2, 1);
        sentence = "Promise 5: those behind it have numbers 1 less";
        // Three hills; the tunnels spare 9 each and cost 1, 2, 4: the cost tells which there are.
        Site three = new Site(6, 9, "slopes(1, 0, 0)", "ground(1, 9)", "ground(3, 9)", "ground(5, 9)",
                "span(4, 6, 1, 1)", "span(0, 2, 1, 2)", "span(2, 4, 1, 4)");
        three.made().due("run()", 3).due("told(3)", 7).due("cost()", 7);
        three.made().due("drop(0)", 1).due("told(0)", 2).due("run()", 2).due("told(3)", 3).due("cost()", 15)
                .due("drop(0)", 1).due("run()", 1).due("cost()", 22).due("span(0, 2, 1, 3)", 1).due("run()", 2)
                .due("told(3)", 3).due("cost()", 16);
        three.made().due("drop(1)", 1).due("run()", 2).due("cost()", 14).due("drop(1)", 1).due("run()", 1)
                .due("told(3)", 1).due("cost()", 19).due("drop(1)", 0).due("drop(0)", 1).due("drop(0)", 0);
        three.made().due("drop(2)", 1).due("run()", 2).due("told(3)", 3).due("cost()", 12).due("drop(2)", 0);
        // What was told of a span goes with it: a bridge is of no use, a tunnel is.
        three.and("drop(1)", "span(0, 2, 0, 2)").made().due("run()", 2).due("told(3)", 3).due("drop(0)", 1)
                .due("run()", 1).due("told(3)", 1).due("drop(0)", 1).due("run()", 0).due("cost()", 27)
                .due("ground(1, 0)", 1).due("fixed(1, 1)", 1).due("prices(1, 9, 9)", 1).due("run()", 1);
        // A bridge over the last hill is of no use: bits 0 and 2 are left.
        three.and("drop(1)", "drop(0)", "span(4, 6, 0, 0)").made().due("run()", 1).due("told(3)", 1)
                .due("span(0, 2, 1, 2)", 2).due("run()", 2).due("told(3)", 5);
    }

    private static void spansUsed() {
        sentence = "Terms: the level is not below the ground for a BRIDGE";
        Site flat = new Site(4, 6, "fixed(0, 3)", "fixed(1, 3)", "fixed(2, 3)", "fixed(3, 3)", "fixed(4, 3)",
                "prices(1, 10, 10)", "prices(2, 100, 100)", "prices(3, 10, 10)", "ground(1, 3)", "ground(3, 3)",
                "ground(0, 3)", "ground(4, 3)");
        flat.and("ground(2, 0)", "span(1, 3, 0, 1)").made().due("run()", 1).due("cost()", 1);
        flat.and("ground(2, 2)", "span(1, 3, 0, 1)").made().due("run()", 1).due("cost()", 1);
        flat.and("ground(2, 3)", "span(1, 3, 0, 1)").made().due("run()", 0).due("other(1)", 1);
        flat.and("ground(2, 4)", "span(1, 3, 0, 1)").made().due("run()", 0).due("cost()", 100).due("other(1)", NONE);
        sentence = "Terms: not above it for a TUNNEL";
        flat.and("ground(2, 6)", "span(1, 3, 1, 1)").made().due("run()", 1).due("cost()", 1);
        flat.and("ground(2, 4)", "span(1, 3, 1, 1)").made().due("run()", 1).due("cost()", 1);
        flat.and("ground(2, 3)", "span(1, 3, 1, 1)").made().due("run()", 0).due("other(1)", 1);
        flat.and("ground(2, 2)", "span(1, 3, 1, 1)").made().due("run()", 0).due("cost()", 100).due("other(1)", NONE);
        sentence = "Terms: at each place between (not FROM, not TO)";
        flat.and("ground(2, 0)", "ground(1, 6)", "ground(3, 6)", "span(1, 3, 0, 1)").made().due("run()", 1)
                .due("cost()", 61).row("told", 1, 5, 0, 1, 0, 6, 0).row("order", 1, 3, 0, 2, 4);
        flat.and("ground(2, 6)", "ground(1, 0)", "ground(3, 0)", "span(1, 3, 1, 1)").made().due("run()", 1)
                .due("cost()", 61).row("told", 1, 5, 0, 1, 0, 0, 6);
        sentence = "Terms: the slopes of its steps are all the same then";
        Site steps = new Site(4, 9, "fixed(0, 0)", "fixed(1, 1)", "prices(2, 50, 50)", "prices(1, 0, 0)",
                "prices(3, 0, 0)", "prices(4, 0, 0)", "span(1, 3, 0, 0)");
        steps.and("fixed(2, 2)", "fixed(3, 3)").made().due("run()", 1).due("cost()", 0);
        steps.and("fixed(2, 2)", "fixed(3, 4)").made().due("run()", 0).due("cost()", 100);
        steps.and("fixed(2, 2)", "fixed(3, 2)").made().due("run()", 0).due("cost()", 100);
    }

    // ---- promise 7

    private static void slopesTold() {
        sentence = "Promise 7: False: another number (MOST 1 .. 24)";
        outside("slopes(#, 1, 0)", 1, 24, 0);
        inside(TABLE, "slopes(#, 1, 0)", 1, 24, 1);
        sentence = "Promise 7: False: another number (CHANGE 0 .. 48)";
        outside("slopes(3, #, 1)", 0, 48, 0);
        inside(TABLE, "slopes(3, #, 1)", 0, 48, 1);
        sentence = "Promise 7: False: another number (FALLS 0 .. MOST)";
        outside("slopes(1, 1, #)", 0, 1, 0);
        outside("slopes(3, 1, #)", 0, 3, 0);
        outside("slopes(24, 48, #)", 0, 24, 0);
        inside(TABLE, "slopes(1, 1, #)", 0, 1, 1);
        inside(TABLE, "slopes(24, 48, #)", 0, 24, 1);
        refused(TABLE, "slopes(MIN, 0, MIN)", 0);
        refused(TABLE, "slopes(0, 0, 0)", 0);
        refused(TABLE, "slopes(-1, 0, -1)", 0);
        refused(TABLE, "slopes(25, 49, 26)", 0);
        sentence = "Terms: a SIZE from FALLS to MOST, and two neighbouring ones differ by at most CHANGE";
        int[][] bounds = {{1, 0, 0}, {1, 0, 1}, {1, 2, 1}, {2, 0, 2}, {3, 2, 1}, {4, 5, 2}, {5, 10, 5}, {4, 8, 0}};
        for (int[] one : bounds) {
            Road x = new Road(2, 12);
            x.due("slopes(" + one[0] + ", " + one[1] + ", " + one[2] + ")", 1);
            slopesHold(x, one[0], one[1], one[2]);
        }
        new Road(2, 24).told("slopes(24, 48, 24)").due("run()", 0).row("level", 0, 24, 0);
        new Road(2, 24).told("slopes(24, 47, 24)").due("run()", -3);
        new Road(2, 24).told("slopes(24, 48, 24)", "fixed(0, 1)").due("run()", -2);
        new Road(2, 24).told("slopes(24, 48, 23)", "fixed(0, 1)").due("run()", 0).row("level", 1, 24, 0);
        new Road(2, 23).told("slopes(24, 48, 24)").due("run()", -2);
    }

    /** All slopes s from level 4 on, and all t behind it, as far as there are levels. */
    private static void slopesHold(Road x, int most, int change, int falls) {
        x.told("fixed(0, 4)");
        for (int s = -4; s <= 5; s++) {
            x.told("fixed(1, " + (4 + s) + ")", "fixed(2, -1)");
            if (Math.abs(s) < falls || Math.abs(s) > most) {
                x.due("run()", -2);
                continue;
            }
            for (int t = Math.max(-4 - s, s - change - 1); t <= Math.min(5 - s, s + change + 1); t++) {
                boolean second = Math.abs(t) >= falls && Math.abs(t) <= most && Math.abs(s - t) <= change;
                x.told("fixed(2, " + (4 + s + t) + ")").due("run()", second ? 0 : -3);
            }
        }
    }

    // ---- promises 8, 9, 10

    private static void tables() {
        sentence = "Promise 8: -1 less the first place that is barred (place 0)";
        Site twice = new Site(4, 6, "run()", "move(0, 2)", "fixed(0, 3)", "fixed(3, 6)", "fixed(4, 0)");
        twice.made().due("run()", -1).noTable().due("run()", -1).due("fixed(0, 2)", 1).due("run()", -5)
                .due("fixed(4, -1)", 1).due("run()", 0).due("level(0)", 2);
        sentence = "Promise 8: -1 less the first place that is barred (place n)";
        new Road(24, 24).told("fixed(23, 0)", "fixed(24, 3)").due("run()", -25).noTable();
        new Road(2, 1).told("fixed(1, 0)", "slopes(1, 1, 1)").due("run()", -3).noTable();
        sentence = "Promise 8: -1 less the first place that is barred (the first of some)";
        new Road(5, 9).told("fixed(1, 0)", "fixed(2, 9)", "fixed(3, 0)", "fixed(5, 9)").due("run()", -3).noTable();
        sentence = "Terms: levels for the places 0 .. p that keep as far as these go";
        // 0, 2, 4, 6 keep so far, and 8 is not there: place 4 is barred, though place 3 leads nowhere.
        new Road(4, 7).told("fixed(0, 0)", "slopes(2, 0, 2)").due("run()", -5).noTable();
        // The steepest first step keeps so far, down and up, and no second one is like it.
        new Road(2, 24).told("fixed(0, 24)", "slopes(24, 0, 24)").due("run()", -3).noTable();
        new Road(2, 24).told("fixed(0, 0)", "slopes(24, 0, 24)").due("run()", -3).noTable();
        sentence = "Promise 8: (then there is none at hand)";
        BARRED.made().noTable().due("move(0, -1)", 0).due("curve(1, 0)", NONE).due("lane(0, 0)", NONE)
                .due("curveAt(1, 0)", NONE).due("told(2)", 1).due("told(1)", 2).due("told(0)", 3)
                .due("fixed(7, 1)", 1).due("run()", 1).due("keeps()", 1).due("told(7)", 0);
        sentence = "Promise 8: Curves are gone";
        TABLE.made().due("told(7)", 2).due("run()", 1).due("told(7)", 0).due("curveAt(1, 0)", NONE)
                .due("curveAt(2, 8)", NONE).due("curve(3, 0)", 0).due("curve(1, 1000)", 1).due("told(2)", 1);
        sentence = "Promise 9: NONE, also without a table";
        for (String p : new String[] {"-1", "-2", "9", "10", "24", "25", "MIN", "MAX"}) {
            refused(TABLE, "level(" + p + ")", NONE);
        }
        for (String p : new String[] {"-1", "0", "4", "8", "9", "MIN", "MAX"}) {
            refused(HILLS, "level(" + p + ")", NONE);
            refused(BARRED, "level(" + p + ")", NONE);
        }
        TABLE.made().due("level(0)", 0).due("level(1)", 2).due("level(7)", 1).due("level(8)", 0);
        new Road(24, 24).told("slopes(24, 48, 0)", "ground(24, 24)", "run()").due("level(24)", 24).due("level(25)", NONE);
    }

    private static void costs() {
        sentence = "Promise 10: NONE without a table";
        HILLS.made().due("cost()", NONE);
        BARRED.made().due("cost()", NONE);
        TABLE.made().due("cost()", 14).due("ground(0, 0)", 1).due("cost()", NONE);
        new Road(2, 1).due("cost()", NONE).due("run()", 0).due("cost()", 0);
        sentence = "Terms: The COST of a table (the greatest)";
        Road x = new Road(24, 24);
        for (int p = 0; p <= 24; p++) {
            x.told("prices(" + p + ", 1000000, 1000000)", "fixed(" + p + ", 24)");
        }
        x.due("run()", 0).due("cost()", 600000000L).due("told(6)", 600).due("told(5)", 0);
        sentence = "Promise 11: NONE: there are not so many";
        // As many costs as there are levels for place 0.
        Site one = new Site(2, 9, "fixed(0, 0)", "fixed(1, 0)", "fixed(2, 0)", "run()");
        one.made().row("other", 0, NONE, NONE, NONE, NONE, NONE, NONE);
        Site few = new Site(2, 9, "slopes(9, 18, 0)", "fixed(1, 0)", "fixed(2, 0)");
        few.and("slopes(1, 18, 0)", "run()").made().row("other", 0, 1, NONE, NONE);
        few.and("slopes(4, 18, 0)", "run()").made().row("other", 0, 1, 2, 3, 4, NONE);
        few.and("slopes(5, 18, 0)", "run()").made().row("other", 0, 1, 2, 3, 4, 5, NONE);
        sentence = "Promise 11: NONE: k is not 0 .. 5";
        few.and("slopes(6, 18, 0)", "run()").made().row("other", 0, 1, 2, 3, 4, 5, NONE, NONE);
        for (String k : new String[] {"-1", "-2", "6", "7", "MIN", "MAX"}) {
            refused(TABLE, "other(" + k + ")", NONE);
            refused(HILLS, "other(" + k + ")", NONE);
        }
        sentence = "Promise 11: NONE: no table is at hand";
        for (int k = 0; k <= 5; k++) {
            refused(HILLS, "other(" + k + ")", NONE);
            refused(BARRED, "other(" + k + ")", NONE);
        }
        few.and("run()").made().due("other(1)", 1).due("fixed(2, 0)", 1).due("other(0)", NONE).due("other(1)", NONE);
        few.and("run()").made().due("other(1)", 1).due("prices(0, 1, 7)", 1).due("run()", 0).due("other(1)", 7)
                .due("move(0, 2)", 1).due("other(0)", 14).due("other(1)", NONE).due("move(0, -1)", 1).due("other(5)", 35);
        sentence = "Promise 11: each once";
        few.and("prices(0, 1, 0)", "run()").made().row("other", 0, NONE);
        few.and("ground(0, 4)", "run()").made().row("other", 0, 1, 2, 3, 4, 5);
        few.and("ground(0, 9)", "prices(0, 0, 1)", "run()").made().row("other", 0, NONE);
        new Site(2, 1, "slopes(1, 2, 0)", "prices(0, 1, 2)", "prices(1, 1, 2)", "prices(2, 1, 2)", "run()").made()
                .row("other", 0, 2, 4, 6, NONE);
    }

    private static void ties() {
        sentence = "Terms: it keeps, and has the least cost";
        // 0 0 0 would cost 6 and has the lesser sizes.
        Site line = new Site(2, 2, "slopes(1, 0, 0)");
        line.and("fixed(0, 0)", "ground(2, 2)", "prices(2, 3, 3)").made().due("run()", 0).row("level", 0, 1, 2)
                .due("cost()", 1);
        Site free = line.and("prices(0, 0, 0)", "prices(1, 0, 0)", "prices(2, 0, 0)");
        sentence = "Terms: of several the one with the least sum of the sizes of its slopes";
        // Before the lower level at place 0, in 0 1 2, and behind a step, in 2 1 0.
        free.and("fixed(2, 2)").made().due("run()", 0).row("level", 2, 2, 2);
        free.and("fixed(0, 2)").made().due("run()", 0).row("level", 2, 2, 2);
        sentence = "Terms: of these the one that at place 0 is lower";
        free.made().due("run()", 0).row("level", 0, 0, 0).due("slopes(1, 0, 1)", 1).due("run()", 0).row("level", 0, 1, 2);
        sentence = "Terms: at the first step at which they are not alike, leads to the lower level";
        Site late = new Site(3, 2, "fixed(0, 0)", "fixed(3, 1)", "ground(3, 1)", "prices(1, 1, 0)", "prices(2, 0, 0)");
        late.made().due("run()", 0).row("level", 0, 0, 0, 1);
        // Only with the tunnel is the lower level at place 1 as cheap as the other one.
        late.and("ground(1, 1)").made().due("run()", 0).row("level", 0, 1, 1, 1);
        late.and("ground(1, 1)", "span(0, 2, 1, 0)").made().due("run()", 1).row("level", 0, 0, 0, 1);
        sentence = "Terms: or, if it is the same, is of no span that is used";
        late.and("span(0, 2, 1, 0)").made().due("run()", 0).row("level", 0, 0, 0, 1).due("told(3)", 0);
        late.and("span(0, 2, 0, 0)").made().due("run()", 0).row("level", 0, 0, 0, 1).due("told(3)", 0);
    }

    // ---- promise 12

    private static void moves() {
        sentence = "Promise 12: False: there is no table";
        for (String numbers : new String[] {"0, 0", "0, -1", "7, 1", "7, -1", "8, 0", "MIN, MIN", "MAX, MAX"}) {
            refused(HILLS, "move(" + numbers + ")", 0);
            refused(BARRED, "move(" + numbers + ")", 0);
        }
        sentence = "Promise 12: False: no such place or level (place)";
        outside("move(#, 1)", 0, LAST, 0);
        outside("move(#, -1)", 0, LAST, 0);
        inside(HILLS.and("fixed(8, -1)", "run()"), "move(#, 2)", 0, LAST, 1);
        inside(TABLE, "move(#, -1)", 0, LAST, 1);
        sentence = "Promise 12: False: no such place or level (level, or NONE)";
        outside("move(3, #)", NONE, TOP, 0);
        outside("move(7, #)", NONE, TOP, 0);
        Site free = HILLS.and("slopes(6, 12, 0)", "run()", "curve(1, 3)");
        free.made().due("move(4, 0)", 1).due("level(4)", 0).due("move(4, 6)", 1).due("level(4)", 6)
                .due("told(2)", 1).due("move(4, -1)", 1).due("told(2)", 0);
        sentence = "Promise 12: False: none would keep (MOST)";
        Site line = new Site(LAST, TOP, "fixed(2, 1)", "run()", "curve(1, 40)", "curve(5, 60)");
        refused(line, "move(1, 4)", 0);
        refused(line, "move(3, 4)", 0);
        line.made().due("move(3, 3)", 1).row("level", 0, 0, 1, 3);
        sentence = "Promise 12: False: none would keep (CHANGE)";
        Site two = line.and("move(3, 3)", "curve(6, 7)");
        two.made().row("level", 0, 0, 1, 3, 4, 4).due("told(7)", 1);
        refused(two, "move(4, 3)", 0);
        refused(two, "move(4, 6)", 0);
        two.made().due("move(4, 5)", 1).due("told(7)", 0).due("level(4)", 5).due("told(2)", 2);
        sentence = "Promise 12: False: none would keep (fixed elsewhere)";
        refused(line, "move(2, 0)", 0);
        refused(line, "move(2, 2)", 0);
        line.made().due("move(2, 1)", 1).due("told(2)", 1).due("told(1)", 1).due("told(7)", 0);
        sentence = "Promise 12: False: none would keep (what was moved before stays moved)";
        refused(two, "move(3, 4)", 0);
        refused(two, "move(3, 6)", 0);
        two.made().due("move(3, 6)", 0).due("told(2)", 1).due("told(7)", 1).due("run()", 0).due("level(3)", 3);
        sentence = "Promise 12: (for NONE: moved no more)";
        two.made().due("move(3, -1)", 1).due("told(2)", 0).row("level", 0, 0, 1, 1, 0).due("told(7)", 0);
        two.made().due("move(5, -1)", 1).due("told(2)", 1).row("level", 0, 0, 1, 3, 4, 4).due("told(7)", 0);
        sentence = "Promise 12: the best table found anew; curves are gone";
        two.made().due("move(3, 3)", 1).due("told(2)", 1).due("told(7)", 0).due("curveAt(6, 0)", NONE);
        two.made().due("move(3, 2)", 1).due("told(2)", 1).row("level", 0, 0, 1, 2, 2, 1, 0);
        sentence = "Terms: (both, if it is both)";
        line.and("move(2, 1)").made().due("fixed(2, 2)", 1).due("run()", -3).due("fixed(2, 1)", 1).due("run()", 0)
                .due("fixed(2, -1)", 1).due("run()", 0).due("level(2)", 1).due("told(1)", 0).due("told(2)", 1);
    }

    // ---- promises 13, 14, 15

    /** Levels 1 0 0 0 1 3 3 4 5 5 5 2 2; a tunnel from 1 to 3; 3, 5, 7 are fixed, 8 and 9 moved. */
    private static final Site BENDS = new Site(12, 6, "slopes(3, 6, 0)", "ground(0, 1)", "ground(2, 6)",
            "ground(4, 1)", "ground(5, 3)", "ground(6, 3)", "ground(7, 4)", "ground(8, 5)", "ground(9, 5)",
            "ground(10, 5)", "ground(11, 2)", "ground(12, 2)", "span(1, 3, 1, 1)", "span(9, 11, 0, 5)", "fixed(3, 0)",
            "fixed(5, 3)", "fixed(7, 4)", "run()", "move(8, 5)", "move(9, 5)", "speed(100)");
    private static final Site FLAT = new Site(LAST, TOP, "run()");

    private static void curves() {
        sentence = "the tests' own sites";
        BENDS.made().row("level", 1, 0, 0, 0, 1, 3, 3, 4, 5, 5, 5, 2, 2).due("told(3)", 1).due("cost()", 1);
        speeds();
        noCurve();
        spannedOrHeld();
        tightOrNear();
        curveCounts();
        curveLevels();
    }

    private static void speeds() {
        sentence = "Promise 13: False: another number";
        outside("speed(#)", 0, 1000, 0);
        inside(TABLE, "speed(#)", 0, 1000, 1);
        inside(HILLS, "speed(#)", 0, 1000, 1);
        inside(BARRED, "speed(#)", 0, 1000, 1);
        sentence = "Promise 13: (Curves that there are stay.)";
        Road x = TABLE.made().due("speed(1000)", 1).due("told(7)", 2).due("curveAt(1, 0)", 89600);
        x.due("curveAt(2, 8)", 192000).due("cost()", 14).due("curve(1, 999)", TIGHT).due("curveAt(1, 0)", 89600);
        x.due("speed(1001)", 0).due("told(7)", 2).due("curve(2, 0)", 1).due("curve(1, 999)", TIGHT);
        x.due("curve(1, 1000)", 1).due("speed(0)", 1).due("told(7)", 1).due("curve(1, 1)", 1);
        x.due("speed(-1)", 0).due("curve(2, 1)", 2).due("speed(2)", 1).due("run()", 1).due("curve(1, 1)", TIGHT);
    }

    private static void noCurve() {
        sentence = "Promise 14: NONE: no table";
        for (String numbers : new String[] {"1, 0", "1, 1", "1, 1000", "4, 300", "7, 0", "0, 0", "MIN, MAX", "1, 1001"}) {
            refused(HILLS, "curve(" + numbers + ")", NONE);
            refused(BARRED, "curve(" + numbers + ")", NONE);
        }
        TABLE.made().due("slopes(2, 4, 0)", 1).due("curve(1, 300)", NONE).due("curve(1, 0)", NONE);
        sentence = "Promise 14: NONE: no such place (1 .. n - 1)";
        outside("curve(#, 0)", 1, LAST - 1, NONE);
        outside("curve(#, 1)", 1, LAST - 1, NONE);
        outside("curve(#, 1000)", 1, LAST - 1, NONE);
        outside(FLAT, "curve(#, 7)", 1, LAST - 1, NONE);
        inside(FLAT, "curve(#, 7)", 1, LAST - 1, 1);
        inside(FLAT, "curve(#, 0)", 1, LAST - 1, 0);
        new Road(2, 1).told("run()").due("curve(1, 1)", 1).due("curve(0, 1)", NONE).due("curve(2, 1)", NONE);
        sentence = "Promise 14: NONE: no such half (1 .. 1000, and 0)";
        outside("curve(1, #)", 0, 1000, NONE);
        outside("curve(6, #)", 0, 1000, NONE);
        outside(FLAT.and("curve(4, 60)"), "curve(4, #)", 0, 1000, NONE);
        inside(FLAT, "curve(4, #)", 1, 1000, 1);
        inside(FLAT, "curve(4, #)", 0, 0, 0);
        refused(FLAT, "curve(0, 1001)", NONE);
        refused(FLAT, "curve(MAX, MIN)", NONE);
        sentence = "Promise 14: NONE goes before the others";
        for (String place : new String[] {"1", "2", "3", "5", "8", "10"}) {
            BENDS.made().due("curve(" + place + ", 1001)", NONE).due("curve(" + place + ", -1)", NONE)
                    .due("curve(" + place + ", MAX)", NONE).due("curve(" + place + ", MIN)", NONE);
        }
    }

    private static void spannedOrHeld() {
        sentence = "Promise 14: SPANNED: a step before or behind it is of a span that is used";
        for (String numbers : new String[] {"1, 1000", "2, 1000", "3, 1000", "1, 1", "2, 1", "3, 1"}) {
            BENDS.made().due("curve(" + numbers + ")", SPANNED).due("told(7)", 0);
        }
        refused(TABLE, "curve(3, 1000)", SPANNED);
        refused(TABLE, "curve(4, 1)", SPANNED);
        refused(TABLE, "curve(6, 1)", SPANNED);
        BENDS.made().due("curve(4, 1000)", 1);
        sentence = "Promise 14: SPANNED: .. that is used (another one is not in the way)";
        BENDS.made().due("told(0)", 2).due("curve(9, 1)", 1).due("curve(10, 999)", 2).due("curve(11, 1)", TIGHT);
        sentence = "Promise 14: the first that fits: SPANNED before HELD";
        BENDS.made().due("speed(0)", 1).due("curve(3, 1)", SPANNED);
        BENDS.and("drop(0)", "ground(2, 0)", "run()", "speed(0)").made().due("curve(3, 1)", HELD);
        sentence = "Promise 14: the first that fits: SPANNED before TIGHT";
        BENDS.made().due("curve(1, 99)", SPANNED);
        BENDS.and("drop(0)", "ground(2, 0)", "run()").made().due("curve(1, 99)", TIGHT).due("curve(1, 100)", 1);
        sentence = "Promise 14: the first that fits: SPANNED before NEAR";
        Site both = BENDS.and("fixed(3, -1)", "run()", "curve(4, 1000)");
        both.made().due("curve(3, 100)", SPANNED).due("told(7)", 1);
        BENDS.and("fixed(3, -1)", "drop(0)", "ground(2, 0)", "run()", "curve(4, 1000)").made().due("curve(3, 100)", NEAR);

        sentence = "Promise 14: HELD: it is fixed or moved, and both slopes are not the same";
        BENDS.made().due("curve(5, 1000)", HELD).due("curve(8, 1000)", HELD).due("told(7)", 0);
        refused(TABLE, "curve(7, 1000)", HELD);
        BENDS.made().due("speed(0)", 1).due("curve(5, 1)", HELD).due("curve(8, 1)", HELD);
        BENDS.made().due("move(5, 3)", 1).due("fixed(5, -1)", 1).due("run()", 1).due("curve(5, 1000)", HELD)
                .due("move(5, -1)", 1).due("curve(5, 1000)", 1);
        sentence = "Promise 14: HELD: .. and both slopes are not the same (the same ones are fine)";
        BENDS.made().due("curve(7, 1)", 1).due("curve(9, 1)", 2).due("curve(6, 999)", 3);
        sentence = "Promise 14: the first that fits: HELD before TIGHT";
        BENDS.made().due("curve(5, 1)", HELD).due("curve(8, 1)", HELD);
        BENDS.made().due("fixed(5, -1)", 1).due("run()", 1).due("curve(5, 1)", TIGHT);
        sentence = "Promise 14: the first that fits: HELD before NEAR";
        BENDS.made().due("curve(6, 1000)", 1).due("curve(5, 1000)", HELD).due("curve(9, 1000)", 2).due("curve(8, 1000)", HELD);
        BENDS.made().due("fixed(5, -1)", 1).due("run()", 1).due("curve(6, 1000)", 1).due("curve(5, 1000)", NEAR);
    }

    private static void tightOrNear() {
        sentence = "Promise 14: TIGHT: the half is less than the size of the difference of both slopes times the speed";
        BENDS.made().due("curve(10, 299)", TIGHT).due("curve(10, 300)", 1).due("curve(10, 0)", 0)
                .due("curve(11, 299)", TIGHT).due("curve(11, 300)", 1).due("curve(4, 99)", TIGHT).due("curve(4, 100)", 2)
                .due("curve(6, 99)", TIGHT).due("curve(6, 100)", 3).due("curve(9, 1)", 4);
        refused(TABLE, "curve(1, 99)", TIGHT);
        refused(TABLE, "curve(2, 1)", TIGHT);
        BENDS.made().due("speed(0)", 1).due("curve(10, 1)", 1);
        BENDS.made().due("speed(1)", 1).due("curve(10, 2)", TIGHT).due("curve(10, 3)", 1);
        BENDS.made().due("speed(1000)", 1).due("curve(10, 1000)", TIGHT).due("curve(6, 999)", TIGHT)
                .due("curve(6, 1000)", 1).due("curve(9, 1)", 2);
        BENDS.made().due("speed(333)", 1).due("curve(10, 998)", TIGHT).due("curve(10, 999)", 1);
        BENDS.made().due("speed(334)", 1).due("curve(10, 1000)", TIGHT);
        // The greatest difference times the greatest speed.
        new Site(2, 24, "slopes(24, 48, 24)", "speed(1000)", "run()").made().due("curve(1, 1000)", TIGHT)
                .due("speed(21)", 1).due("curve(1, 1000)", TIGHT).due("speed(20)", 1).due("curve(1, 960)", 1)
                .due("curve(1, 959)", TIGHT);
        sentence = "Promise 14: the first that fits: TIGHT before NEAR";
        BENDS.made().due("curve(10, 1000)", 1).due("curve(11, 299)", TIGHT).due("curve(11, 300)", NEAR);
        BENDS.made().due("curve(11, 1000)", 1).due("curve(10, 299)", TIGHT).due("curve(10, 300)", NEAR);

        sentence = "Promise 14: NEAR: with the half of a neighbouring place's curve it would be above 1000";
        BENDS.made().due("curve(10, 400)", 1).due("curve(11, 601)", NEAR).due("curve(11, 600)", 2)
                .due("curve(10, 401)", NEAR).due("curve(11, 601)", NEAR).due("curve(10, 300)", 2).due("curve(11, 700)", 2);
        FLAT.made().due("curve(3, 1000)", 1).due("curve(2, 1)", NEAR).due("curve(4, 1)", NEAR).due("curve(3, 999)", 1)
                .due("curve(2, 1)", 2).due("curve(4, 1)", 3).due("curve(3, 1000)", NEAR).due("curve(4, 2)", NEAR);
        FLAT.made().due("curve(2, 300)", 1).due("curve(4, 600)", 2).due("curve(3, 401)", NEAR).due("curve(3, 400)", 3)
                .due("curve(2, 601)", NEAR).due("curve(2, 600)", 3).due("curve(4, 601)", NEAR).due("curve(4, 0)", 2)
                .due("curve(3, 401)", NEAR).due("curve(2, 599)", 2).due("curve(3, 401)", 2);
        refused(TABLE, "curve(1, 501)", NEAR);
        refused(TABLE, "curve(2, 701)", NEAR);
        TABLE.made().due("curve(1, 500)", 2);
        TABLE.made().due("curve(2, 700)", 2);
        FLAT.made().due("curve(1, 1000)", 1).due("curve(3, 1000)", 2).due("curve(5, 1000)", 3).due("curve(7, 1000)", 4)
                .due("curve(4, 1)", NEAR).due("curve(7, 1)", 4).due("curve(6, 1)", NEAR).due("curve(5, 999)", 4)
                .due("curve(6, 1)", 5);
    }

    private static void curveCounts() {
        sentence = "Promise 14: and, but for 0, the first that fits (0 is never SPANNED, HELD, TIGHT, NEAR)";
        for (int p = 1; p <= 11; p++) {
            BENDS.made().due("speed(1000)", 1).due("curve(" + p + ", 0)", 0);
        }
        BENDS.made().due("curve(10, 1000)", 1).due("curve(11, 0)", 1).due("speed(1000)", 1).due("curve(10, 0)", 0);
        sentence = "Promise 14: (0: none any more)";
        TABLE.made().due("curve(1, 0)", 1).due("curveAt(1, 0)", NONE).due("told(7)", 1).due("curve(1, 0)", 1)
                .due("curveAt(2, 0)", 160000).due("curve(2, 0)", 0).due("told(7)", 0).due("curve(2, 1000)", 1);
        sentence = "Promise 14: instead of another one: how many curves there are";
        TABLE.made().due("curve(1, 300)", 2).due("curve(1, 301)", 2).due("curveAt(1, 8)", 128000 + 64 * 301)
                .due("told(7)", 2);
        Road all = FLAT.made();
        for (int p = 1; p < LAST; p++) {
            all.due("curve(" + p + ", 500)", p).due("told(7)", p);
        }
        all.due("curve(4, 500)", LAST - 1).due("curve(4, 501)", NEAR).due("told(7)", LAST - 1);
    }

    private static void curveLevels() {
        sentence = "Promise 15: NONE: no such curve";
        for (String place : new String[] {"0", "3", "4", "5", "6", "7", "8", "9", "-1", "MIN", "MAX", "24"}) {
            refused(TABLE, "curveAt(" + place + ", 0)", NONE);
        }
        for (String place : new String[] {"-1", "0", "1", "2", "7", "8", "9", "MIN", "MAX"}) {
            refused(HILLS, "curveAt(" + place + ", 8)", NONE);
            refused(BARRED, "curveAt(" + place + ", 8)", NONE);
            refused(FLAT, "curveAt(" + place + ", 8)", NONE);
        }
        TABLE.made().due("curve(1, 0)", 1).due("curveAt(1, 4)", NONE).due("prices(0, 1, 1)", 1).due("curveAt(2, 4)", NONE)
                .due("run()", 1).due("curveAt(2, 4)", NONE);
        sentence = "Promise 15: NONE: no such part";
        for (String part : new String[] {"-1", "-2", "9", "10", "MIN", "MAX"}) {
            refused(TABLE, "curveAt(1, " + part + ")", NONE);
            refused(TABLE, "curveAt(5, " + part + ")", NONE);
        }
        sentence = "Promise 15: The level of a curve at one of its parts, 0 .. 8, in 64,000ths";
        TABLE.made().due("curveAt(1, 0)", 89600).due("curveAt(1, 8)", 147200).due("curveAt(2, 0)", 160000)
                .due("curveAt(2, 4)", 184000).due("curveAt(2, 8)", 192000);
        FLAT.made().due("curve(1, 1)", 1).due("curveAt(1, 0)", 0).due("curveAt(1, 8)", 0).due("curve(7, 1000)", 2)
                .due("curveAt(7, 0)", 0).due("curveAt(7, 8)", 0);
        // 24 0 24: the greatest slopes; then 0 24 0.
        Site steep = new Site(2, 24, "slopes(24, 48, 24)");
        steep.and("ground(0, 24)", "ground(2, 24)", "run()", "curve(1, 1000)").made().due("curveAt(1, 0)", 1536000)
                .due("curveAt(1, 1)", 1200000).due("curveAt(1, 4)", 768000).due("curveAt(1, 8)", 1536000)
                .due("curve(1, 1)", 1).due("curveAt(1, 0)", 1536).due("curveAt(1, 8)", 1536);
        steep.and("run()", "curve(1, 1000)").made().due("curveAt(1, 0)", 0).due("curveAt(1, 4)", 768000)
                .due("curveAt(1, 8)", 0).due("curve(1, 1)", 1).due("curveAt(1, 0)", 1534464);
    }

    // ---- promises 16, 17

    private static void lorries() {
        sentence = "Promise 16: False: another number (TOP 0 .. 1000)";
        outside("lorry(#, 7, 3, 2)", 0, 1000, 0);
        inside(TABLE, "lorry(#, 7, 3, 2)", 0, 1000, 1);
        sentence = "Promise 16: False: another number (LEAST 0 .. 1000)";
        outside("lorry(9, #, 3, 2)", 0, 1000, 0);
        inside(TABLE, "lorry(9, #, 3, 2)", 0, 1000, 1);
        sentence = "Promise 16: False: another number (LOSS 0 .. 1000)";
        outside("lorry(9, 7, #, 2)", 0, 1000, 0);
        inside(TABLE, "lorry(9, 7, #, 2)", 0, 1000, 1);
        sentence = "Promise 16: False: another number (GAIN 0 .. 1000)";
        outside("lorry(9, 7, 3, #)", 0, 1000, 0);
        inside(TABLE, "lorry(9, 7, 3, #)", 0, 1000, 1);
        refused(TABLE, "lorry(MIN, MIN, MIN, MIN)", 0);
        refused(TABLE, "lorry(MAX, MAX, MAX, MAX)", 0);
        TABLE.made().due("lorry(0, 1000, 0, 1000)", 1).due("cost()", 14).due("told(7)", 2).due("lane(0, 0)", 0)
                .due("lane(0, 1)", 8).due("lane(0, 2)", 0).due("run()", 1).due("lane(0, 1)", 8);
        lanes();
        lanesAtTheirEdges();
    }

    /** Places 0 to 6 at these levels. */
    private static Site road(int... levels) {
        Site site = new Site(levels.length - 1, 24, "slopes(24, 48, 0)");
        for (int p = 0; p < levels.length; p++) {
            site = site.and("fixed(" + p + ", " + levels[p] + ")");
        }
        return site.and("run()");
    }

    private static Road lane(Road x, int k, int first, int last, int slowest) {
        x.due("lane(" + k + ", 0)", first).due("lane(" + k + ", 1)", last);
        return x.due("lane(" + k + ", 2)", slowest);
    }

    private static void lanes() {
        sentence = "Promise 17: NONE when there is none such (lane)";
        // 80 60 60 70 50 55 80 with 80, 61, 10, 5: two lanes.
        Site two = road(0, 2, 2, 1, 3, 3, 0).and("lorry(80, 61, 10, 5)");
        Road x = two.made();
        // 80 60 65 75 55 60 80
        lane(x, 0, 1, 1, 60);
        lane(x, 1, 4, 5, 55);
        for (String k : new String[] {"2", "3", "-1", "-2", "MIN", "MAX", "6", "7"}) {
            for (int what = 0; what <= 2; what++) {
                x.due("lane(" + k + ", " + what + ")", NONE);
            }
        }
        for (String k : new String[] {"-1", "1", "2", "MIN", "MAX"}) {
            refused(TABLE, "lane(" + k + ", 0)", NONE);
        }
        sentence = "Promise 17: NONE when there is none such (what)";
        for (String what : new String[] {"-1", "-2", "3", "4", "MIN", "MAX"}) {
            x.due("lane(0, " + what + ")", NONE).due("lane(1, " + what + ")", NONE);
            refused(TABLE, "lane(0, " + what + ")", NONE);
        }
        sentence = "Promise 17: NONE when there is none such (of the table: none without)";
        for (String numbers : new String[] {"0, 0", "0, 1", "0, 2", "1, 0", "-1, 0", "0, 3"}) {
            refused(HILLS.and("lorry(10, 1000, 1, 1)"), "lane(" + numbers + ")", NONE);
            refused(BARRED.and("lorry(10, 1000, 1, 1)"), "lane(" + numbers + ")", NONE);
        }
        TABLE.made().due("lane(0, 0)", 1).due("fixed(8, 0)", 1).due("lane(0, 0)", NONE);
    }

    private static void lanesAtTheirEdges() {
        sentence = "Terms: its speed is less by s times LOSS (0 at least)";
        // 80 10 0 1 2 and so on: a speed below 0 would come back to 0 later.
        Road x = road(0, 7, 15, 15, 15, 15, 15).and("lorry(80, 3, 10, 1)").made();
        lane(x, 0, 2, 4, 0).due("lane(1, 0)", NONE);
        lane(road(0, 8, 8).and("lorry(80, 1, 10, 1)").made(), 0, 1, 1, 0);
        lane(road(0, 24, 24).and("lorry(1000, 1000, 1000, 1000)").made(), 0, 1, 1, 0).due("lane(1, 0)", NONE);
        sentence = "Terms: behind another one greater by (1 - s) times GAIN (TOP at most)";
        // 20 10 20 20 10: 25 would not be below 21.
        lane(road(0, 1, 1, 1, 2).and("lorry(20, 21, 10, 15)").made(), 0, 0, 4, 10);
        lane(road(24, 0, 0, 1, 1).and("lorry(20, 20, 10, 1000)").made(), 0, 3, 3, 10).due("lane(1, 0)", NONE);
        // 30 0 10: just TOP less 20; a slope of 0 gains once, one of -1 twice.
        lane(road(0, 3, 3, 2).and("lorry(30, 30, 10, 10)").made(), 0, 1, 2, 0).due("lane(1, 0)", NONE);
        lane(road(0, 3, 3, 3).and("lorry(30, 30, 10, 10)").made(), 0, 1, 3, 0).due("lane(1, 0)", NONE);
        sentence = "Terms: It is at TOP at place 0";
        lane(road(0, 0, 0).and("lorry(9, 10, 5, 5)").made(), 0, 0, 2, 9);
        road(0, 0, 0).and("lorry(10, 10, 5, 5)").made().due("lane(0, 0)", NONE);
        sentence = "Terms: A LANE is a longest row of places with speeds below LEAST";
        // 80 70 75 80 60 65 70: at LEAST itself there is no lane.
        Site hills = road(0, 1, 1, 1, 3, 3, 3);
        hills.and("lorry(80, 60, 10, 5)").made().due("lane(0, 0)", NONE);
        lane(hills.and("lorry(80, 61, 10, 5)").made(), 0, 4, 4, 60).due("lane(1, 0)", NONE);
        lane(hills.and("lorry(80, 70, 10, 5)").made(), 0, 4, 5, 60).due("lane(1, 0)", NONE);
        Road both = hills.and("lorry(80, 71, 10, 5)").made();
        lane(both, 0, 1, 1, 70);
        lane(both, 1, 4, 6, 60).due("lane(2, 0)", NONE);
        lane(hills.and("lorry(80, 81, 10, 5)").made(), 0, 0, 6, 60).due("lane(1, 0)", NONE);
        lane(hills.and("lorry(80, 1000, 0, 0)").made(), 0, 0, 6, 80).due("lane(1, 0)", NONE);
        hills.and("lorry(0, 0, 1000, 0)").made().due("lane(0, 0)", NONE);
        lane(hills.and("lorry(0, 1, 1000, 1000)").made(), 0, 0, 6, 0).due("lane(1, 0)", NONE);
        // A lane at every other place of the longest road: 12 of them.
        int[] saw = new int[25];
        for (int p = 1; p < 25; p += 2) {
            saw[p] = 1;
        }
        Road many = road(saw).and("lorry(10, 10, 1, 1)").made();
        for (int k = 0; k < 12; k++) {
            lane(many, k, 2 * k + 1, 2 * k + 1, 9);
        }
        many.due("lane(12, 0)", NONE).due("lane(12, 1)", NONE).due("lane(12, 2)", NONE);
    }

    // ---- promises 18, 19, 20

    private static void ordersAndCounts() {
        sentence = "Promise 18: NONE when there is none such";
        for (String k : new String[] {"-1", "-2", "9", "10", "24", "25", "MIN", "MAX"}) {
            refused(TABLE, "order(" + k + ")", NONE);
        }
        TABLE.made().row("order", 7, 0, 1, 2, 3, 4, 5, 6, 8);
        sentence = "Promise 18: NONE when there is .. no table";
        for (String k : new String[] {"-1", "0", "8", "9", "MIN", "MAX"}) {
            refused(HILLS, "order(" + k + ")", NONE);
            refused(BARRED, "order(" + k + ")", NONE);
        }
        TABLE.made().due("order(0)", 7).due("drop(2)", 1).due("order(0)", NONE);
        sentence = "Promise 18: the most first, of alike ones the lesser place";
        // At level 2: filled 2, cut 2, nothing, cut 1, filled 2, filled 1.
        Site some = road(2, 2, 2, 2, 2, 2).and("ground(1, 4)", "ground(2, 2)", "ground(3, 3)", "ground(5, 1)", "run()");
        some.made().row("order", 0, 1, 4, 3, 5, 2, NONE);
        some.and("prices(4, 1, 1000000)", "prices(1, 0, 0)", "run()").made().row("order", 0, 1, 4, 3, 5, 2, NONE);
        sentence = "Promise 18: (0 between the ends of a span that is used)";
        some.and("span(0, 2, 1, 0)", "span(3, 5, 0, 3)", "run()").made().due("told(3)", 1).row("order", 0, 4, 3, 5, 1, 2, NONE);
        some.and("span(0, 2, 1, 0)", "span(3, 5, 0, 1)", "run()").made().due("told(3)", 3).row("order", 0, 3, 5, 1, 2, 4, NONE);
        counts();
        keeping();
    }

    private static void counts() {
        sentence = "Promise 19: NONE for others";
        for (String what : new String[] {"-1", "-2", "8", "9", "MIN", "MAX"}) {
            refused(TABLE, "told(" + what + ")", NONE);
            refused(HILLS, "told(" + what + ")", NONE);
            refused(BARRED, "told(" + what + ")", NONE);
        }
        sentence = "Promise 19: and of the table, NONE without";
        HILLS.made().row("told", 3, 1, 0, NONE, NONE, NONE, NONE, NONE);
        BARRED.made().row("told", 3, 2, 1, NONE, NONE, NONE, NONE, NONE);
        TABLE.made().row("told", 3, 1, 1, 1, 6, 1, 0, 2, NONE);
        TABLE.made().due("ground(0, 0)", 1).row("told", 3, 1, 1, NONE, NONE, NONE, NONE, NONE);
        new Road(2, 1).row("told", 0, 0, 0, NONE, NONE, NONE, NONE, NONE).told("run()").row("told", 0, 0, 0, 0, 0, 0, 0, 0, NONE);
        sentence = "Promise 19: 1 places that are fixed, 2 moved by hand (all of them)";
        Road x = new Road(24, 24).told("slopes(24, 48, 24)");
        for (int p = 0; p <= 24; p++) {
            x.due("fixed(" + p + ", " + p % 2 * 24 + ")", 1).due("told(1)", p + 1);
        }
        x.due("run()", 0).due("told(4)", 24 * 24).due("told(6)", 12 * 24).due("told(5)", 0)
                .due("cost()", 12 * 24).due("other(0)", 12 * 24).due("other(1)", NONE);
        for (int p = 0; p <= 24; p++) {
            x.due("move(" + p + ", " + p % 2 * 24 + ")", 1).due("told(2)", p + 1);
        }
        x.due("told(1)", 25).due("run()", 0).due("told(2)", 25).due("fixed(0, -1)", 1).due("told(1)", 24).due("told(2)", 25);
        sentence = "Promise 19: 5 levels that are cut, 6 filled (between the ends of a span that is used: none)";
        Site some = road(2, 2, 2, 2, 2, 2).and("ground(1, 4)", "ground(2, 2)", "ground(3, 3)", "ground(5, 1)", "run()");
        some.made().row("told", 0, 6, 0, 0, 0, 3, 5, 0);
        some.and("ground(0, 5)", "ground(5, 9)", "run()").made().row("told", 0, 6, 0, 0, 0, 3 + 3 + 7, 2, 0);
        some.and("span(0, 2, 1, 1)", "run()").made().row("told", 1, 6, 0, 1, 0, 1, 5, 0);
        some.and("span(3, 5, 0, 1)", "run()").made().row("told", 1, 6, 0, 1, 0, 3, 3, 0);
        some.and("span(3, 5, 0, 2)", "span(0, 2, 1, 0)", "run()").made().row("told", 2, 6, 0, 2, 0, 1, 5, 0);
    }

    private static void keeping() {
        sentence = "Promise 20: Whether there is a table, and it keeps";
        HILLS.made().due("keeps()", 0);
        BARRED.made().due("keeps()", 0);
        TABLE.made().due("keeps()", 1).due("keeps()", 1).due("fixed(8, 1)", 1).due("keeps()", 0).due("fixed(8, 0)", 1)
                .due("keeps()", 0).due("run()", 1).due("keeps()", 1).due("move(7, -1)", 1).due("keeps()", 1)
                .due("move(7, 6)", 0).due("keeps()", 1).due("slopes(1, 0, 1)", 1).due("run()", -8).due("keeps()", 0);
        new Road(2, 1).due("keeps()", 0).due("run()", 0).due("keeps()", 1).due("ground(0, 2)", 0).due("keeps()", 1)
                .due("ground(0, 1)", 1).due("keeps()", 0);
        sixOfSix();
    }

    // ---- what "Terms" says of the table at hand

    private static void forgetting() {
        sentence = "Terms: until it is FORGOTTEN, with all curves, by each call that says so, when it answers true";
        String[] calls = {"ground(0, 0)", "ground(8, 6)", "prices(0, 3, 2)", "prices(8, 0, 0)", "drop(0)", "drop(2)",
            "fixed(8, 0)", "fixed(3, -1)", "fixed(0, 0)", "slopes(2, 4, 0)", "slopes(24, 48, 0)"};
        for (String call : calls) {
            Road x = TABLE.made().due(call, 1).noTable().due("curveAt(1, 0)", NONE).due("lane(0, 0)", NONE);
            x.due("curve(1, 0)", NONE).due("move(7, -1)", 0).due("told(2)", 1);
            x.call("run()");
            x.due("keeps()", 1).due("told(7)", 0).due("curveAt(1, 0)", NONE).due("curveAt(2, 0)", NONE).due("level(7)", 1);
        }
        sentence = "Terms: (or a number from 0 on)";
        FLAT.and("curve(3, 4)").made().due("told(7)", 1).due("span(0, 2, 0, 9)", 0).noTable().due("run()", 0)
                .due("told(7)", 0).due("span(2, 4, 0, 9)", 1).noTable().due("curveAt(3, 0)", NONE);
        sentence = "Terms: What is refused changes nothing (the table and the curves are still at hand)";
        String[] refusals = {"ground(9, 0)", "ground(0, 7)", "prices(0, -1, 2)", "prices(0, 1, 1000001)", "drop(3)",
            "fixed(8, 7)", "fixed(0, -2)", "slopes(2, 49, 0)", "slopes(2, 4, 3)", "move(7, 6)", "move(9, 0)",
            "speed(1001)", "lorry(80, 65, 10, 1001)"};
        for (String call : refusals) {
            TABLE.made().due(call, 0).due("cost()", 14).due("told(7)", 2).due("keeps()", 1).due("told(2)", 1)
                    .due("curveAt(1, 0)", 89600);
        }
        TABLE.made().due("span(2, 5, 0, 0)", NONE).due("cost()", 14).due("told(7)", 2);
        sentence = "Terms: by each call that says so (others leave the table and the curves)";
        String[] others = {"level(0)", "cost()", "other(0)", "other(5)", "speed(1)", "curve(2, 500)", "curveAt(1, 0)",
            "lorry(1, 2, 3, 4)", "lane(0, 0)", "order(0)", "told(0)", "told(7)", "keeps()"};
        for (String call : others) {
            TABLE.made().told(call).due("cost()", 14).due("told(7)", 2).due("keeps()", 1).due("curveAt(1, 0)", 89600)
                    .row("level", 0, 2, 3, 3, 3, 3, 3, 1, 0);
        }
    }

    // ---- any numbers, in any state

    /** Any call with a least or a greatest number in it is refused; none throws, whatever its numbers. */
    private static void extremes() {
        sentence = "any numbers in any state";
        for (Site site : new Site[] {new Site(2, 1), HILLS, TABLE, BARRED, FLAT, BENDS, new Site(24, 24, "run()")}) {
            for (Method method : METHODS.values()) {
                if (!java.lang.reflect.Modifier.isPublic(method.getModifiers())) {
                    continue;
                }
                Road x = site.made();
                String[] words = method.getParameterCount() > 2 ? new String[] {"MIN", "-1", "0", "MAX"}
                        : new String[] {"MIN", "-2147483647", "-2", "-1", "0", "1", "24", "25", "1000001", "2147483646", "MAX"};
                allNumbers(x, method, method.getName() + "(", method.getParameterCount(), words);
            }
        }
    }

    private static void allNumbers(Road x, Method method, String text, int left, String[] words) {
        if (left > 0) {
            for (String word : words) {
                allNumbers(x, method, text + word + (left > 1 ? ", " : ""), left - 1, words);
            }
            return;
        }
        boolean far = text.contains("M") || text.contains("214748364");
        long answer = x.call(text + ")");
        if (far && answer != (method.getReturnType() == boolean.class ? 0 : NONE)) {
            fault(text + ") answered " + answer);
        }
    }
}
