import java.lang.reflect.Field;
import java.util.Arrays;
import java.util.function.BooleanSupplier;
import java.util.function.LongSupplier;

/** Cases worked out by hand, a method for each promise: ordinary inputs, edges, wrong inputs. */
public final class Promises {
    private static final int LOWEST = Integer.MIN_VALUE;
    private static final int HIGHEST = Integer.MAX_VALUE;
    private static int wrong = 0;
    private static String promise = "";

    public static void main(String[] args) {
        newObject();
        ground();
        prices();
        span();
        spanRoom();
        drop();
        fixed();
        slopes();
        run();
        runTies();
        runSpans();
        barred();
        level();
        cost();
        other();
        move();
        speed();
        curve();
        curveOrder();
        curveAt();
        lorry();
        lane();
        order();
        told();
        keeps();
        whatForgets();
        manyCalls();
        System.out.println(wrong == 0 ? "all answers are as due" : wrong + " answers are not as due");
        if (wrong != 0) {
            System.exit(1);
        }
    }

    private static void due(String call, long got, long want) {
        if (got != want) {
            wrong++;
            System.out.println("promise " + promise + ": " + call + " answered " + got + ", due is " + want);
        }
    }

    private static void yes(String call, boolean got) {
        due(call, got ? 1 : 0, 1);
    }

    private static void no(String call, boolean got) {
        due(call, got ? 1 : 0, 0);
    }

    private static void levels(LevelTables x, int... want) {
        for (int p = 0; p < want.length; p++) {
            due("level(" + p + ")", x.level(p), want[p]);
        }
    }

    /** A few answers, so that no object is called more than 512 times; Edges looks at all of them. */
    private static String seen(LevelTables x) {
        StringBuilder all = new StringBuilder();
        for (int what : new int[] {0, 1, 2, 5, 7}) {
            all.append(x.told(what)).append(' ');
        }
        return all.append(x.cost()).append(' ').append(x.level(1)).append(' ').append(x.keeps()).toString();
    }

    /** A call that is refused leaves all as it was. */
    private static void refused(LevelTables x, String call, LongSupplier made, long answer) {
        String before = seen(x);
        due(call, made.getAsLong(), answer);
        if (!before.equals(seen(x))) {
            wrong++;
            System.out.println("promise " + promise + ": " + call + " was refused, but changed something");
        }
    }

    private static void refused(LevelTables x, String call, BooleanSupplier made) {
        refused(x, call, () -> made.getAsBoolean() ? 1 : 0, 0);
    }

    /** A site with a used span, cuts and fills, a move, two curves and a lane. */
    private static LevelTables rich() {
        LevelTables x = new LevelTables(8, 6);
        x.slopes(2, 4, 0);
        int[] ground = {0, 2, 3, 3, 6, 6, 3, 2, 0};
        for (int p = 0; p <= 8; p++) {
            x.ground(p, ground[p]);
            x.prices(p, 3, 2);
        }
        x.span(3, 6, 1, 4);
        x.lorry(80, 65, 10, 5);
        x.fixed(8, 0);
        yes("run() of the rich site finds a table", x.run() >= 0);
        yes("move(7, 1)", x.move(7, 1));
        due("curve(1, 300)", x.curve(1, 300), 1);
        due("curve(2, 500)", x.curve(2, 500), 2);
        return x;
    }

    private static void newObject() {
        promise = "1";
        int[][] cases = {
            // steps, levels, n, m
            {2, 1, 2, 1}, {1, 0, 2, 1}, {0, 5, 2, 5}, {-7, -7, 2, 1}, {3, 2, 3, 2}, {24, 24, 24, 24},
            {25, 25, 24, 24}, {23, 23, 23, 23}, {LOWEST, HIGHEST, 2, 24}, {HIGHEST, LOWEST, 24, 1}};
        for (int[] one : cases) {
            LevelTables x = new LevelTables(one[0], one[1]);
            String made = "new LevelTables(" + one[0] + ", " + one[1] + ")";
            yes(made + " has place n", x.ground(one[2], 0));
            no(made + " has place n + 1", x.ground(one[2] + 1, 0));
            yes(made + " has level m", x.ground(0, one[3]));
            no(made + " has level m + 1", x.ground(0, one[3] + 1));
        }
        LevelTables x = new LevelTables(3, 9);
        due("cost() without a table", x.cost(), -1);
        no("keeps() without a table", x.keeps());
        due("told(0)", x.told(0), 0);
        due("told(1)", x.told(1), 0);
        due("told(2)", x.told(2), 0);
        due("run()", x.run(), 0);
        levels(x, 0, 0, 0, 0);
        firstBounds();
    }

    private static void firstBounds() {
        // MOST 2, CHANGE 1, FALLS 0, prices 1.
        LevelTables x = new LevelTables(2, 9);
        x.fixed(0, 0);
        x.fixed(1, 3);
        due("run() with a slope of 3", x.run(), -2);
        x.fixed(1, 2);
        x.fixed(2, 4);
        due("run() with slopes of 2", x.run(), 0);
        due("cost()", x.cost(), 6);
        x.fixed(2, 3);
        due("run() with a change of 1", x.run(), 0);
        x.fixed(2, 2);
        due("run() with a change of 2", x.run(), -3);
        x.fixed(1, 0);
        x.fixed(2, 0);
        due("run() with flat steps", x.run(), 0);
        LevelTables y = new LevelTables(2, 9);
        y.ground(0, 5);
        y.ground(1, 5);
        y.ground(2, 5);
        y.fixed(0, 4);
        y.fixed(1, 4);
        y.fixed(2, 4);
        y.run();
        due("cost() of three levels cut", y.cost(), 3);
    }

    private static void ground() {
        promise = "2";
        LevelTables x = new LevelTables(3, 4);
        yes("ground(0, 0)", x.ground(0, 0));
        yes("ground(3, 4)", x.ground(3, 4));
        yes("ground(1, 2)", x.ground(1, 2));
        yes("ground(1, 3)", x.ground(1, 3));
        x.slopes(4, 8, 0);
        due("run()", x.run(), 0);
        levels(x, 0, 3, 0, 4);
        due("cost()", x.cost(), 0);
        refused(x, "ground(-1, 0)", () -> x.ground(-1, 0));
        refused(x, "ground(4, 0)", () -> x.ground(4, 0));
        refused(x, "ground(0, -1)", () -> x.ground(0, -1));
        refused(x, "ground(0, 5)", () -> x.ground(0, 5));
        refused(x, "ground(LOWEST, 0)", () -> x.ground(LOWEST, 0));
        refused(x, "ground(0, HIGHEST)", () -> x.ground(0, HIGHEST));
        x.run();
        levels(x, 0, 3, 0, 4);
        yes("ground(1, 3) once more", x.ground(1, 3));
        due("level(0), forgotten", x.level(0), -1);
    }

    private static void prices() {
        promise = "3";
        LevelTables x = new LevelTables(2, 4);
        x.ground(1, 4);
        x.fixed(0, 2);
        x.fixed(1, 2);
        x.fixed(2, 2);
        yes("prices(0, 1000000, 7)", x.prices(0, 1000000, 7));
        yes("prices(1, 50, 1000000)", x.prices(1, 50, 1000000));
        yes("prices(2, 1000000, 0)", x.prices(2, 1000000, 0));
        x.run();
        due("cost() of 2 * 7 + 2 * 50 + 2 * 0", x.cost(), 114);
        refused(x, "prices(-1, 0, 0)", () -> x.prices(-1, 0, 0));
        refused(x, "prices(3, 0, 0)", () -> x.prices(3, 0, 0));
        refused(x, "prices(0, -1, 0)", () -> x.prices(0, -1, 0));
        refused(x, "prices(0, 0, -1)", () -> x.prices(0, 0, -1));
        refused(x, "prices(0, 1000001, 0)", () -> x.prices(0, 1000001, 0));
        refused(x, "prices(0, 0, 1000001)", () -> x.prices(0, 0, 1000001));
        x.run();
        due("cost() as before", x.cost(), 114);
        yes("prices(0, 1000000, 7) once more", x.prices(0, 1000000, 7));
        due("cost(), forgotten", x.cost(), -1);
        yes("prices(0, 0, 1000000)", x.prices(0, 0, 1000000));
        x.run();
        due("cost()", x.cost(), 2000100);
    }

    private static void span() {
        promise = "4";
        LevelTables x = new LevelTables(10, 4);
        due("span(2, 4, 0, 0)", x.span(2, 4, 0, 0L), 0);
        due("span(4, 6, 1, 1000000000), an end in common", x.span(4, 6, 1, 1000000000L), 1);
        due("span(0, 2, 0, 3), an end in common", x.span(0, 2, 0, 3L), 2);
        x.run();
        refused(x, "span(3, 5, 0, 0)", () -> x.span(3, 5, 0, 0L), -1);
        refused(x, "span(2, 4, 0, 0)", () -> x.span(2, 4, 0, 0L), -1);
        refused(x, "span(1, 3, 0, 0)", () -> x.span(1, 3, 0, 0L), -1);
        refused(x, "span(5, 9, 0, 0)", () -> x.span(5, 9, 0, 0L), -1);
        refused(x, "span(0, 10, 0, 0)", () -> x.span(0, 10, 0, 0L), -1);
        refused(x, "span(6, 7, 0, 0)", () -> x.span(6, 7, 0, 0L), -1);
        refused(x, "span(7, 7, 0, 0)", () -> x.span(7, 7, 0, 0L), -1);
        refused(x, "span(9, 7, 0, 0)", () -> x.span(9, 7, 0, 0L), -1);
        refused(x, "span(9, 11, 0, 0)", () -> x.span(9, 11, 0, 0L), -1);
        refused(x, "span(6, 9, -1, 0)", () -> x.span(6, 9, -1, 0L), -1);
        refused(x, "span(6, 9, 2, 0)", () -> x.span(6, 9, 2, 0L), -1);
        refused(x, "span(6, 9, 0, -1)", () -> x.span(6, 9, 0, -1L), -1);
        refused(x, "span(6, 9, 0, 1000000001)", () -> x.span(6, 9, 0, 1000000001L), -1);
        refused(x, "span(6, LOWEST, 0, 0)", () -> x.span(6, LOWEST, 0, 0L), -1);
        refused(x, "span(HIGHEST, 6, 0, 0)", () -> x.span(HIGHEST, 6, 0, 0L), -1);
        refused(x, "span(LOWEST, HIGHEST, 0, 0)", () -> x.span(LOWEST, HIGHEST, 0, 0L), -1);
        due("told(0)", x.told(0), 3);
        due("span(8, 10, 1, 5)", x.span(8, 10, 1, 5L), 3);
        due("cost(), forgotten", x.cost(), -1);
        LevelTables y = new LevelTables(4, 1);
        due("span(-1, 2, 0, 0)", y.span(-1, 2, 0, 0L), -1);
        due("span(0, 5, 0, 0)", y.span(0, 5, 0, 0L), -1);
        due("span(0, 4, 0, 0)", y.span(0, 4, 0, 0L), 0);
    }

    private static void spanRoom() {
        LevelTables x = new LevelTables(24, 24);
        for (int k = 0; k < 6; k++) {
            due("span " + k, x.span(22 - 2 * k, 24 - 2 * k, k % 2, k), k);
        }
        x.run();
        refused(x, "a seventh span", () -> x.span(0, 2, 0, 0L), -1);
        due("told(0)", x.told(0), 6);
        yes("drop(3)", x.drop(3));
        due("a sixth again", x.span(0, 2, 0, 0L), 5);
        due("a seventh again", x.span(3, 5, 0, 0L), -1);
    }

    private static void drop() {
        promise = "5";
        LevelTables x = new LevelTables(6, 4);
        // Three hills of 4; each span spares 4 cents and costs 1, 2, 3.
        x.ground(1, 4);
        x.ground(3, 4);
        x.ground(5, 4);
        x.span(0, 2, 1, 1L);
        x.span(2, 4, 1, 2L);
        x.span(4, 6, 1, 3L);
        due("run()", x.run(), 3);
        due("cost()", x.cost(), 6);
        refused(x, "drop(3)", () -> x.drop(3));
        refused(x, "drop(-1)", () -> x.drop(-1));
        refused(x, "drop(HIGHEST)", () -> x.drop(HIGHEST));
        refused(x, "drop(LOWEST)", () -> x.drop(LOWEST));
        yes("drop(0)", x.drop(0));
        due("cost(), forgotten", x.cost(), -1);
        due("told(0)", x.told(0), 2);
        due("run()", x.run(), 2);
        due("cost() of 4 + 2 + 3", x.cost(), 9);
        due("told(3): numbers are 1 less", x.told(3), 3);
        yes("drop(1)", x.drop(1));
        x.run();
        due("cost() of 4 + 2 + 4", x.cost(), 10);
        due("told(3)", x.told(3), 1);
        yes("drop(0)", x.drop(0));
        no("drop(0) of none", x.drop(0));
        due("span where one was", x.span(1, 5, 0, 0L), 0);
    }

    private static void fixed() {
        promise = "6";
        LevelTables x = new LevelTables(2, 3);
        yes("fixed(1, 1)", x.fixed(1, 1));
        due("run()", x.run(), 0);
        levels(x, 0, 1, 1);
        due("told(1)", x.told(1), 1);
        refused(x, "fixed(-1, 0)", () -> x.fixed(-1, 0));
        refused(x, "fixed(3, 0)", () -> x.fixed(3, 0));
        refused(x, "fixed(3, -1)", () -> x.fixed(3, -1));
        refused(x, "fixed(0, 4)", () -> x.fixed(0, 4));
        refused(x, "fixed(0, -2)", () -> x.fixed(0, -2));
        refused(x, "fixed(0, LOWEST)", () -> x.fixed(0, LOWEST));
        x.run();
        levels(x, 0, 1, 1);
        yes("fixed(1, 2), another level", x.fixed(1, 2));
        due("told(1)", x.told(1), 1);
        x.run();
        // 1 2 2, 2 2 1, 1 2 3 and more cost 5 and have sizes of 1, 1, 2.
        levels(x, 1, 2, 2);
        yes("fixed(0, NONE) that is not fixed", x.fixed(0, LevelTables.NONE));
        due("cost(), forgotten", x.cost(), -1);
        yes("fixed(1, NONE)", x.fixed(1, LevelTables.NONE));
        due("told(1)", x.told(1), 0);
        x.run();
        levels(x, 0, 0, 0);
    }

    private static void slopes() {
        promise = "7";
        LevelTables x = new LevelTables(3, 24);
        yes("slopes(1, 0, 0)", x.slopes(1, 0, 0));
        yes("slopes(24, 48, 24)", x.slopes(24, 48, 24));
        due("run()", x.run(), 0);
        levels(x, 0, 24, 0, 24);
        refused(x, "slopes(0, 0, 0)", () -> x.slopes(0, 0, 0));
        refused(x, "slopes(25, 0, 0)", () -> x.slopes(25, 0, 0));
        refused(x, "slopes(1, -1, 0)", () -> x.slopes(1, -1, 0));
        refused(x, "slopes(1, 49, 0)", () -> x.slopes(1, 49, 0));
        refused(x, "slopes(5, 0, 6)", () -> x.slopes(5, 0, 6));
        refused(x, "slopes(5, 0, -1)", () -> x.slopes(5, 0, -1));
        refused(x, "slopes(LOWEST, 0, 0)", () -> x.slopes(LOWEST, 0, 0));
        x.run();
        levels(x, 0, 24, 0, 24);
        yes("slopes(3, 4, 2)", x.slopes(3, 4, 2));
        due("cost(), forgotten", x.cost(), -1);
        x.run();
        levels(x, 0, 2, 0, 2);
        yes("slopes(3, 3, 2)", x.slopes(3, 3, 2));
        x.run();
        // Slopes of another sign differ by 4 at least: the road only rises, or only falls.
        levels(x, 0, 2, 4, 6);
        yes("slopes(5, 5, 5)", x.slopes(5, 5, 5));
        x.run();
        levels(x, 0, 5, 10, 15);
        LevelTables low = new LevelTables(3, 1);
        yes("slopes(2, 4, 2) over 2 levels", low.slopes(2, 4, 2));
        due("run()", low.run(), -2);
    }

    private static void run() {
        promise = "8";
        LevelTables x = new LevelTables(4, 5);
        x.ground(2, 4);
        due("run()", x.run(), 0);
        // 0 0 0 0 0 costs 4; 0 0 1 1 1 would cost 5, and so on.
        levels(x, 0, 0, 0, 0, 0);
        x.prices(2, 3, 3);
        due("run()", x.run(), 0);
        // 0 1 2 2 2, 0 1 2 2 1 (slopes 1 1 0 -1) and their like: 6 + 1 + 2 + 1 = 10 with 1 2 2 1 0.
        due("cost()", x.cost(), 10);
        x.prices(3, 1, 0);
        due("run()", x.run(), 0);
        // 0 2 4 5 5: 2 at place 1, nothing at 2 and 3, 5 at 4.
        due("cost()", x.cost(), 7);
        due("curve(1, 10)", x.curve(1, 10), 1);
        due("run() with a table at hand", x.run(), 0);
        due("told(7), curves are gone", x.told(7), 0);
        x.slopes(24, 48, 0);
        due("run()", x.run(), 0);
        levels(x, 0, 0, 4, 0, 0);
    }

    private static void runTies() {
        promise = "8, ties";
        LevelTables x = new LevelTables(2, 2);
        x.prices(0, 0, 0);
        x.prices(1, 0, 0);
        x.prices(2, 0, 0);
        due("run()", x.run(), 0);
        // All cost 0: flat ones have the least sizes, the lowest one is taken.
        levels(x, 0, 0, 0);
        x.fixed(1, 1);
        x.run();
        levels(x, 1, 1, 1);
        x.slopes(1, 2, 1);
        x.run();
        // 0 1 0, 0 1 2, 2 1 0, 2 1 2.
        levels(x, 0, 1, 0);
        x.fixed(0, 2);
        x.run();
        levels(x, 2, 1, 0);
        x.slopes(1, 0, 0);
        x.fixed(1, -1);
        x.run();
        // Sizes go before lower levels: 2 2 2, not 2 1 0.
        levels(x, 2, 2, 2);
        // Cost goes before sizes.
        x.prices(2, 1, 1);
        x.run();
        levels(x, 2, 1, 0);
        due("told(4)", x.told(4), 2);
        LevelTables y = new LevelTables(3, 2);
        for (int p = 0; p <= 3; p++) {
            y.prices(p, 0, 0);
        }
        y.slopes(1, 1, 0);
        y.fixed(0, 0);
        y.fixed(3, 1);
        y.run();
        // 0 0 0 1, 0 0 1 1, 0 1 1 1 have sizes of 1: the lower one at the first step.
        levels(y, 0, 0, 0, 1);
    }

    private static void runSpans() {
        promise = "8, spans";
        LevelTables x = new LevelTables(4, 3);
        x.ground(2, 3);
        x.span(1, 3, 1, 3L);
        due("run(): a tunnel of 3 instead of a cut of 3", x.run(), 0);
        x.drop(0);
        x.span(1, 3, 1, 2L);
        due("run(): a tunnel of 2", x.run(), 1);
        due("cost()", x.cost(), 2);
        levels(x, 0, 0, 0, 0, 0);
        x.drop(0);
        x.span(1, 3, 0, 0L);
        // A bridge may not be below the ground, and places at 3 around it cost more than the cut.
        due("run(): a bridge is of no use", x.run(), 0);
        x.drop(0);
        LevelTables y = new LevelTables(4, 6);
        for (int p = 0; p <= 4; p++) {
            y.ground(p, 6);
            y.prices(p, 5, 5);
        }
        y.ground(2, 0);
        y.span(1, 3, 0, 29L);
        due("run(): a bridge of 29 instead of a fill of 30", y.run(), 1);
        due("cost()", y.cost(), 29);
        y.drop(0);
        y.span(1, 3, 0, 30L);
        due("run(): without the bridge of 30", y.run(), 0);
        due("cost()", y.cost(), 30);
        y.drop(0);
        y.span(1, 3, 1, 0L);
        due("run(): a tunnel is of no use", y.run(), 0);
        lineUnderSpan();
    }

    private static void lineUnderSpan() {
        // At the ground itself both kinds are fine; ends and places between two spans are paid.
        LevelTables x = new LevelTables(4, 4);
        for (int p = 0; p <= 4; p++) {
            x.fixed(p, 2);
        }
        x.ground(1, 2);
        x.ground(3, 2);
        x.prices(2, 9, 9);
        x.span(0, 2, 0, 0L);
        x.span(2, 4, 1, 0L);
        due("run(): spans that spare nothing", x.run(), 0);
        due("cost() of 2 + 18 + 2", x.cost(), 22);
        due("other(1): all ways cost the same", x.other(1), -1);
        LevelTables y = new LevelTables(4, 4);
        y.slopes(2, 2, 0);
        for (int p = 0; p <= 4; p++) {
            y.prices(p, 10, 10);
        }
        y.ground(1, 4);
        y.ground(2, 4);
        y.fixed(0, 0);
        y.fixed(2, 2);
        y.fixed(4, 0);
        y.span(0, 4, 1, 1L);
        due("run(): a span needs one slope", y.run(), 0);
        due("cost()", y.cost(), 10 * (2 + 2));
        y.fixed(2, -1);
        due("run(): the tunnel", y.run(), 1);
        due("cost()", y.cost(), 1);
        y.fixed(2, 1);
        due("run(): a place between is fixed elsewhere", y.run(), 0);
        y.fixed(2, 0);
        due("run(): a place between is fixed there", y.run(), 1);
    }

    private static void barred() {
        promise = "8, barred";
        LevelTables x = new LevelTables(5, 9);
        x.fixed(5, 9);
        x.fixed(4, 6);
        due("run()", x.run(), -6);
        due("cost()", x.cost(), -1);
        no("keeps()", x.keeps());
        x.fixed(1, 0);
        due("run(): slopes of 2 from place 1 on would begin below level 0", x.run(), -5);
        x.fixed(1, 1);
        due("run()", x.run(), -6);
        x.fixed(3, 3);
        due("run(): 3 levels in a step", x.run(), -5);
        x.fixed(0, 4);
        due("run(): 3 levels in the first step", x.run(), -2);
        x.fixed(0, -1);
        x.fixed(3, -1);
        x.fixed(5, -1);
        due("run()", x.run(), 0);
        LevelTables y = new LevelTables(3, 3);
        y.run();
        yes("move(0, 2)", y.move(0, 2));
        yes("fixed(0, 1)", y.fixed(0, 1));
        due("run(): place 0 is held at two levels", y.run(), -1);
        yes("fixed(0, 2)", y.fixed(0, 2));
        due("run(): place 0 is held at one level twice", y.run(), 0);
        // Neither slopes alone nor changes alone tell it: 0 0 can't be followed by 2.
        LevelTables z = new LevelTables(3, 3);
        z.fixed(0, 0);
        z.fixed(1, 0);
        z.fixed(2, 2);
        due("run()", z.run(), -3);
        z.slopes(2, 2, 0);
        due("run()", z.run(), 0);
        LevelTables steep = new LevelTables(2, 24);
        steep.fixed(0, 0);
        steep.fixed(1, 24);
        steep.fixed(2, 0);
        steep.slopes(24, 47, 0);
        due("run(): slopes of 24 and -24", steep.run(), -3);
        steep.slopes(24, 48, 0);
        due("run(): slopes of 24 and -24", steep.run(), 0);
        steep.slopes(23, 48, 0);
        due("run(): a slope of 24", steep.run(), -2);
    }

    private static void level() {
        promise = "9";
        LevelTables x = new LevelTables(3, 3);
        due("level(0) without a table", x.level(0), -1);
        x.fixed(0, 3);
        x.fixed(3, 0);
        x.run();
        levels(x, 3, 1, 0, 0);
        due("level(-1)", x.level(-1), -1);
        due("level(4)", x.level(4), -1);
        due("level(LOWEST)", x.level(LOWEST), -1);
        due("level(HIGHEST)", x.level(HIGHEST), -1);
    }

    private static void cost() {
        promise = "10";
        LevelTables x = new LevelTables(24, 24);
        due("cost() without a table", x.cost(), -1);
        for (int p = 0; p <= 24; p++) {
            x.prices(p, 1000000, 999999);
            x.ground(p, p % 2 == 0 ? 24 : 0);
            x.fixed(p, 12);
        }
        x.run();
        due("cost() of 13 cuts and 12 fills of 12", x.cost(), 12L * (13 * 1000000 + 12 * 999999));
        for (int k = 0; k < 6; k++) {
            x.span(4 * k, 4 * k + 4, 0, 1000000000L);
        }
        x.run();
        due("cost(): no span", x.cost(), 12L * (13 * 1000000 + 12 * 999999));
        x.slopes(1, 0, 1);
        x.run();
        due("cost() when nothing keeps", x.cost(), -1);
    }

    private static void other() {
        promise = "11";
        LevelTables x = new LevelTables(2, 1);
        due("other(0) without a table", x.other(0), -1);
        x.prices(0, 0, 1);
        x.prices(1, 0, 2);
        x.prices(2, 0, 10);
        x.slopes(1, 2, 0);
        x.run();
        // Sums of some of 1, 2, 10.
        long[] sums = {0, 1, 2, 3, 10, 11};
        for (int k = 0; k < 6; k++) {
            due("other(" + k + ")", x.other(k), sums[k]);
        }
        due("other(6)", x.other(6), -1);
        due("other(-1)", x.other(-1), -1);
        due("other(LOWEST)", x.other(LOWEST), -1);
        due("other(HIGHEST)", x.other(HIGHEST), -1);
        x.prices(0, 0, 5);
        x.prices(1, 0, 5);
        x.prices(2, 0, 5);
        due("other(0), forgotten", x.other(0), -1);
        x.run();
        // Each once: 0, 5, 10, 15.
        due("other(3)", x.other(3), 15);
        due("other(4)", x.other(4), -1);
        yes("move(0, 1)", x.move(0, 1));
        due("other(0) behind a move", x.other(0), 5);
        due("other(2) behind a move", x.other(2), 15);
        due("other(3) behind a move", x.other(3), -1);
        x.slopes(1, 0, 0);
        x.run();
        // Of tables that keep alone: 1 1 1; 1 0 and lower does not.
        due("other(0)", x.other(0), 15);
        due("other(1)", x.other(1), -1);
        otherSpans();
    }

    private static void otherSpans() {
        LevelTables x = new LevelTables(4, 1);
        for (int p = 0; p <= 4; p++) {
            x.fixed(p, 1);
        }
        x.prices(1, 0, 100);
        x.prices(3, 0, 1000);
        x.span(0, 2, 0, 7L);
        x.span(2, 4, 0, 2000L);
        x.run();
        // 3 for places 0, 2, 4; then 7 or 100, and 1000 or 2000.
        due("other(0)", x.other(0), 3 + 7 + 1000);
        due("other(1)", x.other(1), 3 + 100 + 1000);
        due("other(2)", x.other(2), 3 + 7 + 2000);
        due("other(3)", x.other(3), 3 + 100 + 2000);
        due("other(4)", x.other(4), -1);
    }

    private static void move() {
        promise = "12";
        LevelTables x = new LevelTables(3, 5);
        no("move(0, 0) without a table", x.move(0, 0));
        due("told(2)", x.told(2), 0);
        x.run();
        due("curve(1, 5)", x.curve(1, 5), 1);
        refused(x, "move(-1, 0)", () -> x.move(-1, 0));
        refused(x, "move(4, 0)", () -> x.move(4, 0));
        refused(x, "move(0, 6)", () -> x.move(0, 6));
        refused(x, "move(0, -2)", () -> x.move(0, -2));
        refused(x, "move(4, -1)", () -> x.move(4, -1));
        refused(x, "move(0, LOWEST)", () -> x.move(0, LOWEST));
        yes("move(1, 2)", x.move(1, 2));
        due("told(7), curves are gone", x.told(7), 0);
        due("told(2)", x.told(2), 1);
        // 2 + 2 + 1 + 0; 1 2 2 1 costs 6.
        levels(x, 2, 2, 1, 0);
        due("cost()", x.cost(), 5);
        x.curve(2, 3);
        refused(x, "move(2, 5)", () -> x.move(2, 5));
        due("told(7), curves stay", x.told(7), 1);
        yes("move(1, 3), instead", x.move(1, 3));
        due("told(2)", x.told(2), 1);
        due("level(1)", x.level(1), 3);
        x.curve(2, 3);
        yes("move(0, NONE) that is not moved", x.move(0, LevelTables.NONE));
        due("told(7), curves are gone", x.told(7), 0);
        due("level(1)", x.level(1), 3);
        yes("move(1, NONE)", x.move(1, LevelTables.NONE));
        levels(x, 0, 0, 0, 0);
        due("told(2)", x.told(2), 0);
        movedAndFixed();
    }

    private static void movedAndFixed() {
        LevelTables x = new LevelTables(3, 5);
        x.fixed(2, 1);
        x.run();
        refused(x, "move(2, 2), fixed at 1", () -> x.move(2, 2));
        yes("move(2, 1), fixed at 1", x.move(2, 1));
        x.ground(0, 1);
        due("told(2): moves stay", x.told(2), 1);
        no("move(2, NONE) without a table", x.move(2, LevelTables.NONE));
        x.fixed(2, 3);
        due("run(): both hold", x.run(), -3);
        x.fixed(2, -1);
        due("run()", x.run(), 0);
        due("level(2), still moved", x.level(2), 1);
        LevelTables y = new LevelTables(4, 5);
        y.ground(2, 5);
        y.span(1, 3, 1, 1L);
        due("run()", y.run(), 1);
        yes("move(2, 5)", y.move(2, 5));
        due("told(3): the tunnel would rise and is too dear", y.told(3), 0);
    }

    private static void speed() {
        promise = "13";
        LevelTables x = new LevelTables(3, 5);
        x.fixed(0, 0);
        x.fixed(3, 2);
        x.slopes(2, 2, 0);
        x.run();
        levels(x, 0, 0, 0, 2);
        due("curve(2, 1) at speed 0", x.curve(2, 1), 1);
        yes("speed(1000)", x.speed(1000));
        due("told(7), curves stay", x.told(7), 1);
        due("cost(), the table stays", x.cost(), 2);
        due("curve(2, 1000)", x.curve(2, 1000), -2);
        due("curveAt(2, 8), the curve is as it was", x.curveAt(2, 8), 2 * 64);
        due("curve(1, 1), no bend", x.curve(1, 1), 2);
        yes("speed(500)", x.speed(500));
        refused(x, "speed(-1)", () -> x.speed(-1));
        refused(x, "speed(1001)", () -> x.speed(1001));
        refused(x, "speed(LOWEST)", () -> x.speed(LOWEST));
        due("curve(1, 0)", x.curve(1, 0), 1);
        due("curve(2, 999)", x.curve(2, 999), -2);
        due("curve(2, 1000)", x.curve(2, 1000), 1);
        yes("speed(0)", x.speed(0));
        due("curve(2, 1)", x.curve(2, 1), 1);
    }

    private static void curve() {
        promise = "14";
        LevelTables x = new LevelTables(4, 5);
        due("curve(1, 5) without a table", x.curve(1, 5), -1);
        due("curve(1, 0) without a table", x.curve(1, 0), -1);
        x.run();
        refused(x, "curve(0, 5)", () -> x.curve(0, 5), -1);
        refused(x, "curve(4, 5)", () -> x.curve(4, 5), -1);
        refused(x, "curve(0, 0)", () -> x.curve(0, 0), -1);
        refused(x, "curve(4, 0)", () -> x.curve(4, 0), -1);
        refused(x, "curve(-1, 5)", () -> x.curve(-1, 5), -1);
        refused(x, "curve(HIGHEST, 5)", () -> x.curve(HIGHEST, 5), -1);
        refused(x, "curve(1, -1)", () -> x.curve(1, -1), -1);
        refused(x, "curve(1, 1001)", () -> x.curve(1, 1001), -1);
        due("curve(2, 0) of none", x.curve(2, 0), 0);
        due("curve(1, 1000)", x.curve(1, 1000), 1);
        refused(x, "curve(2, 1)", () -> x.curve(2, 1), -3);
        due("curve(3, 1000)", x.curve(3, 1000), 2);
        due("curve(1, 400), instead", x.curve(1, 400), 2);
        refused(x, "curve(2, 600), near the one behind", () -> x.curve(2, 600), -3);
        due("curve(3, 400)", x.curve(3, 400), 2);
        due("curve(2, 600)", x.curve(2, 600), 3);
        refused(x, "curve(1, 401)", () -> x.curve(1, 401), -3);
        refused(x, "curve(3, 401)", () -> x.curve(3, 401), -3);
        due("curve(2, 0)", x.curve(2, 0), 2);
        due("curve(2, 0) once more", x.curve(2, 0), 2);
        due("told(7)", x.told(7), 2);
        due("curve(3, 1000)", x.curve(3, 1000), 2);
    }

    private static void curveOrder() {
        promise = "14, the first that fits";
        LevelTables x = new LevelTables(6, 6);
        x.slopes(3, 6, 0);
        x.ground(2, 6);
        x.prices(2, 9, 9);
        x.span(1, 3, 1, 1L);
        x.fixed(5, 3);
        due("run()", x.run(), 1);
        levels(x, 0, 0, 0, 0, 0, 3, 0);
        due("curve(1, 1): a step behind", x.curve(1, 1), -5);
        due("curve(2, 1): both steps", x.curve(2, 1), -5);
        due("curve(3, 1): a step before", x.curve(3, 1), -5);
        due("curve(1, 0)", x.curve(1, 0), 0);
        due("curve(5, 1): fixed, and a bend", x.curve(5, 1), -4);
        x.speed(1000);
        due("curve(5, 1): fixed goes before tight", x.curve(5, 1), -4);
        due("curve(5, 0)", x.curve(5, 0), 0);
        due("curve(4, 1000)", x.curve(4, 1000), -2);
        x.speed(300);
        due("curve(4, 899)", x.curve(4, 899), -2);
        due("curve(4, 900)", x.curve(4, 900), 1);
        yes("move(1, 0)", x.move(1, 0));
        due("curve(1, 1): a span goes before held", x.curve(1, 1), -5);
        yes("move(4, 0)", x.move(4, 0));
        due("curve(4, 1000): moved, and a bend", x.curve(4, 1000), -4);
        LevelTables y = new LevelTables(4, 6);
        y.fixed(1, 1);
        y.fixed(2, 2);
        y.fixed(3, 3);
        y.run();
        levels(y, 0, 1, 2, 3, 3);
        y.speed(200);
        due("curve(2, 900): fixed, without a bend", y.curve(2, 900), 1);
        y.fixed(3, -1);
        y.run();
        levels(y, 0, 1, 2, 2, 1);
        due("curve(3, 900)", y.curve(3, 900), 1);
        y.fixed(2, -1);
        y.run();
        levels(y, 1, 1, 0, 0, 0);
        due("curve(3, 900)", y.curve(3, 900), 1);
        due("curve(2, 199): tight goes before near", y.curve(2, 199), -2);
        due("curve(2, 200)", y.curve(2, 200), -3);
        due("curve(3, 800)", y.curve(3, 800), 1);
        due("curve(2, 200)", y.curve(2, 200), 2);
    }

    private static void curveAt() {
        promise = "15";
        LevelTables x = new LevelTables(3, 24);
        due("curveAt(1, 0) without a table", x.curveAt(1, 0), -1);
        x.slopes(24, 48, 0);
        x.fixed(0, 20);
        x.fixed(2, 9);
        x.fixed(3, 24);
        x.run();
        levels(x, 20, 0, 9, 24);
        due("curveAt(1, 0) without a curve", x.curveAt(1, 0), -1);
        due("curve(1, 1000)", x.curve(1, 1000), 1);
        // s = -20, t = 9: level 0, and 1000 (-320 u + 1280 + 29 u u).
        long[] want = {1280000, 989000, 756000, 581000, 464000, 405000, 404000, 461000, 576000};
        for (int u = 0; u <= 8; u++) {
            due("curveAt(1, " + u + ")", x.curveAt(1, u), want[u]);
        }
        due("curveAt(1, 9)", x.curveAt(1, 9), -1);
        due("curveAt(1, -1)", x.curveAt(1, -1), -1);
        due("curveAt(1, HIGHEST)", x.curveAt(1, HIGHEST), -1);
        due("curveAt(2, 4)", x.curveAt(2, 4), -1);
        due("curveAt(0, 0)", x.curveAt(0, 0), -1);
        due("curveAt(3, 0)", x.curveAt(3, 0), -1);
        due("curveAt(-1, 0)", x.curveAt(-1, 0), -1);
        due("curveAt(LOWEST, 0)", x.curveAt(LOWEST, 0), -1);
        due("curve(1, 7)", x.curve(1, 7), 1);
        due("curveAt(1, 8)", x.curveAt(1, 8), 7 * 576);
        due("curve(1, 0)", x.curve(1, 0), 0);
        due("curveAt(1, 8)", x.curveAt(1, 8), -1);
        due("curve(1, 7)", x.curve(1, 7), 1);
        x.ground(0, 0);
        due("curveAt(1, 8), forgotten", x.curveAt(1, 8), -1);
        x.run();
        due("curveAt(1, 8) behind another run", x.curveAt(1, 8), -1);
    }

    private static LevelTables hills() {
        LevelTables x = new LevelTables(8, 24);
        x.slopes(24, 48, 0);
        int[] levels = {0, 2, 5, 5, 3, 4, 8, 8, 0};
        for (int p = 0; p <= 8; p++) {
            x.fixed(p, levels[p]);
        }
        x.run();
        return x;
    }

    private static void lorry() {
        promise = "16";
        LevelTables x = hills();
        // 80 60 30 35 50 40 0 5 50: the first lorry.
        due("lane(0, 0)", x.lane(0, 0), 2);
        due("lane(1, 1)", x.lane(1, 1), 7);
        refused(x, "lorry(-1, 0, 0, 0)", () -> x.lorry(-1, 0, 0, 0));
        refused(x, "lorry(0, -1, 0, 0)", () -> x.lorry(0, -1, 0, 0));
        refused(x, "lorry(0, 0, -1, 0)", () -> x.lorry(0, 0, -1, 0));
        refused(x, "lorry(0, 0, 0, -1)", () -> x.lorry(0, 0, 0, -1));
        refused(x, "lorry(1001, 0, 0, 0)", () -> x.lorry(1001, 0, 0, 0));
        refused(x, "lorry(0, 1001, 0, 0)", () -> x.lorry(0, 1001, 0, 0));
        refused(x, "lorry(0, 0, 1001, 0)", () -> x.lorry(0, 0, 1001, 0));
        refused(x, "lorry(0, 0, 0, 1001)", () -> x.lorry(0, 0, 0, 1001));
        long before = x.cost();
        yes("lorry(1000, 1000, 1000, 1000)", x.lorry(1000, 1000, 1000, 1000));
        due("cost(), the table stays", x.cost(), before);
        yes("lorry(0, 0, 0, 0)", x.lorry(0, 0, 0, 0));
        due("lane(0, 0): no speed is below 0", x.lane(0, 0), -1);
        yes("lorry(0, 1, 0, 0)", x.lorry(0, 1, 0, 0));
        due("lane(0, 0)", x.lane(0, 0), 0);
        due("lane(0, 1)", x.lane(0, 1), 8);
        x.ground(0, 0);
        x.run();
        due("lane(0, 1): the lorry stays", x.lane(0, 1), 8);
    }

    private static void lanes(LevelTables x, int... want) {
        for (int i = 0; i < want.length; i++) {
            due("lane(" + i / 3 + ", " + i % 3 + ")", x.lane(i / 3, i % 3), want[i]);
        }
        for (int what = 0; what < 3; what++) {
            due("lane(" + want.length / 3 + ", " + what + ")", x.lane(want.length / 3, what), -1);
        }
    }

    private static void lane() {
        promise = "17";
        LevelTables x = hills();
        // 80 60 30 35 50 40 0 5 50
        lanes(x, 2, 3, 30, 5, 7, 0);
        due("lane(0, 3)", x.lane(0, 3), -1);
        due("lane(0, -1)", x.lane(0, -1), -1);
        due("lane(-1, 0)", x.lane(-1, 0), -1);
        due("lane(LOWEST, 0)", x.lane(LOWEST, 0), -1);
        due("lane(HIGHEST, 0)", x.lane(HIGHEST, 0), -1);
        x.lorry(80, 51, 10, 5);
        lanes(x, 2, 8, 0);
        x.lorry(80, 81, 10, 5);
        lanes(x, 0, 8, 0);
        // 12 10 7 10 12 11 7 10 12: never above TOP.
        x.lorry(12, 12, 1, 3);
        lanes(x, 1, 3, 7, 5, 7, 7);
        x.lorry(12, 8, 1, 3);
        lanes(x, 2, 2, 7, 6, 6, 7);
        // A slope of -8 gains nine times as much.
        x.lorry(1000, 1000, 1000, 1);
        // 1000 0 0 1 4 0 0 1 10
        lanes(x, 1, 8, 0);
        x.lorry(1000, 10, 1000, 1);
        lanes(x, 1, 7, 0);
        x.ground(0, 0);
        due("lane(0, 0), forgotten", x.lane(0, 0), -1);
    }

    private static void order() {
        promise = "18";
        LevelTables x = new LevelTables(6, 9);
        due("order(0) without a table", x.order(0), -1);
        int[] ground = {3, 5, 2, 9, 1, 3, 8};
        for (int p = 0; p <= 6; p++) {
            x.ground(p, ground[p]);
            x.fixed(p, 3);
        }
        x.run();
        // 0 2 1 6 2 0 5
        int[] want = {3, 6, 1, 4, 2, 0, 5};
        for (int k = 0; k <= 6; k++) {
            due("order(" + k + ")", x.order(k), want[k]);
        }
        due("order(7)", x.order(7), -1);
        due("order(-1)", x.order(-1), -1);
        due("order(HIGHEST)", x.order(HIGHEST), -1);
        due("order(LOWEST)", x.order(LOWEST), -1);
        x.span(2, 4, 1, 0L);
        x.run();
        due("told(3)", x.told(3), 1);
        // 0 2 1 0 2 0 5: prices have no part in it.
        int[] spanned = {6, 1, 4, 2, 0, 3, 5};
        for (int k = 0; k <= 6; k++) {
            due("order(" + k + ") with a span", x.order(k), spanned[k]);
        }
        x.prices(2, 1000, 1000);
        due("order(0), forgotten", x.order(0), -1);
        x.run();
        due("order(0)", x.order(0), 6);
    }

    private static void told() {
        promise = "19";
        LevelTables x = new LevelTables(6, 9);
        for (int what = 0; what <= 2; what++) {
            due("told(" + what + ") at first", x.told(what), 0);
        }
        for (int what = 3; what <= 8; what++) {
            due("told(" + what + ") without a table", x.told(what), -1);
        }
        int[] ground = {3, 5, 2, 9, 1, 3, 8};
        int[] level = {3, 4, 4, 4, 3, 2, 2};
        for (int p = 0; p <= 6; p++) {
            x.ground(p, ground[p]);
            x.prices(p, 100, 100);
            x.fixed(p, level[p]);
        }
        x.span(4, 6, 0, 0L);
        x.span(1, 3, 0, 0L);
        due("told(0)", x.told(0), 2);
        due("told(1)", x.told(1), 7);
        due("told(2)", x.told(2), 0);
        due("run()", x.run(), 1);
        due("told(3): the second span", x.told(3), 2);
        due("told(4)", x.told(4), 3);
        due("told(5) of 1 + 5 + 1 + 6", x.told(5), 13);
        due("told(6) of 2", x.told(6), 2);
        due("told(7)", x.told(7), 0);
        due("curve(5, 1)", x.curve(5, 1), -4);
        x.move(6, 2);
        due("told(2)", x.told(2), 1);
        x.move(0, 3);
        due("told(2)", x.told(2), 2);
        x.move(6, -1);
        due("told(2)", x.told(2), 1);
        due("told(8)", x.told(8), -1);
        due("told(-1)", x.told(-1), -1);
        due("told(HIGHEST)", x.told(HIGHEST), -1);
        due("told(LOWEST)", x.told(LOWEST), -1);
        x.drop(1);
        due("told(5), forgotten", x.told(5), -1);
        due("told(0)", x.told(0), 1);
        due("told(1)", x.told(1), 7);
        due("told(2)", x.told(2), 1);
        due("run()", x.run(), 0);
        due("told(6): no span any more", x.told(6), 2 + 2);
    }

    private static void keeps() {
        promise = "20";
        LevelTables x = new LevelTables(4, 4);
        no("keeps() without a table", x.keeps());
        x.run();
        yes("keeps()", x.keeps());
        yes("move(2, 2)", x.move(2, 2));
        yes("keeps() behind a move", x.keeps());
        no("move(4, 9)", x.move(4, 9));
        no("move(3, 4) would not keep", x.move(3, 4));
        yes("keeps() behind a refused move", x.keeps());
        x.fixed(0, 0);
        no("keeps(), forgotten", x.keeps());
        x.fixed(2, 3);
        x.run();
        no("keeps() where a place is barred", x.keeps());
        yes("keeps() with a span, a move, curves", rich().keeps());
        keepsLooks();
    }

    /**
     * No call leaves a table that does not keep, so that other levels are put in from behind. How
     * the table is held is free: where it is held in another way, this can't be tried.
     */
    private static void keepsLooks() {
        if (heldLevels(new LevelTables(4, 4)) == null) {
            System.out.println("the levels inside are not found: keeps() was not tried on other ones");
            return;
        }
        looked(4, 8, 0, true, 0, 0, 0, 0, 1);
        looked(4, 8, 0, true, 0, 2, 2, 2, 1);
        // Place 4 is fixed at 1, place 0 moved to 0.
        looked(4, 8, 0, false, 0, 0, 0, 0, 0);
        looked(4, 8, 0, false, 1, 0, 0, 0, 1);
        looked(4, 8, 0, false, 0, -1, -1, -1, 1);
        // The tunnel from 1 to 3, with a ground of 2 between.
        looked(4, 8, 0, false, 0, 3, 3, 3, 1);
        looked(4, 8, 0, false, 0, 1, 1, 2, 1);
        looked(4, 8, 0, false, 0, 1, 2, 2, 1);
        // MOST, CHANGE, FALLS, at the first step and at the last one.
        looked(1, 8, 0, false, 0, 2, 2, 2, 1);
        looked(1, 8, 0, false, 0, 1, 2, 3, 1);
        looked(4, 1, 0, false, 0, 2, 2, 2, 1);
        looked(4, 1, 0, false, 0, 1, 2, 3, 1);
        looked(4, 8, 1, true, 0, 1, 2, 3, 1);
        looked(4, 8, 1, false, 0, 0, 1, 2, 1);
        looked(4, 8, 1, false, 0, 3, 2, 1, 1);
    }

    private static void looked(int most, int change, int falls, boolean want, int... levels) {
        LevelTables x = new LevelTables(4, 4);
        x.slopes(most, change, falls);
        x.ground(2, 2);
        x.prices(2, 100, 100);
        x.fixed(4, 1);
        x.span(1, 3, 1, 0L);
        x.run();
        yes("move(0, 0)", x.move(0, 0));
        if (falls == 0) {
            due("told(3)", x.told(3), 1);
        }
        System.arraycopy(levels, 0, heldLevels(x), 0, levels.length);
        due("keeps() with " + Arrays.toString(levels), x.keeps() ? 1 : 0, want ? 1 : 0);
    }

    private static int[] heldLevels(LevelTables x) {
        try {
            Field table = LevelTables.class.getDeclaredField("table");
            table.setAccessible(true);
            Field inside = table.getType().getDeclaredField("levels");
            inside.setAccessible(true);
            return inside.get(table.get(x)) instanceof int[] levels ? levels : null;
        } catch (ReflectiveOperationException e) {
            return null;
        }
    }

    private static void whatForgets() {
        promise = "2 to 7, what forgets";
        Change[] forgetting = {
            x -> x.ground(0, 0), x -> x.prices(0, 3, 2), x -> x.span(0, 2, 0, 9L) >= 0, x -> x.drop(0),
            x -> x.fixed(8, 0), x -> x.fixed(0, -1), x -> x.slopes(2, 4, 0)};
        for (int i = 0; i < forgetting.length; i++) {
            LevelTables x = rich();
            yes("forgetting call " + i, forgetting[i].made(x));
            due("cost() behind call " + i, x.cost(), -1);
            due("level(0) behind call " + i, x.level(0), -1);
            due("told(7) behind call " + i, x.told(7), -1);
            no("keeps() behind call " + i, x.keeps());
            no("move(0, NONE) behind call " + i, x.move(0, -1));
            yes("run() behind call " + i, x.run() >= 0);
            due("told(7) behind run() and call " + i, x.told(7), 0);
            due("told(2) behind call " + i, x.told(2), 1);
        }
        Change[] keeping = {
            x -> x.speed(7), x -> x.lorry(1, 2, 3, 4), x -> x.curve(2, 0) == 1, x -> x.keeps(),
            x -> x.other(5) >= 0, x -> x.order(0) >= 0, x -> x.told(0) == 1};
        for (int i = 0; i < keeping.length; i++) {
            LevelTables x = rich();
            long before = x.cost();
            yes("keeping call " + i, keeping[i].made(x));
            due("cost() behind keeping call " + i, x.cost(), before);
            yes("curves behind keeping call " + i, x.told(7) >= 1);
        }
    }

    private interface Change {
        boolean made(LevelTables x);
    }

    /** The dearest calls, as many as an object is used for. */
    private static void manyCalls() {
        promise = "8, 11, 12: many calls";
        LevelTables x = new LevelTables(24, 24);
        x.slopes(24, 30, 0);
        for (int p = 0; p <= 24; p++) {
            x.ground(p, p * 7 % 25);
        }
        due("run()", x.run(), 0);
        due("cost()", x.cost(), 0);
        for (int i = 0; i < 150; i++) {
            int p = i % 25;
            int level = x.level(p);
            yes("move", x.move(p, level));
            due("other(5)", x.other(5), i < 24 ? 5 : -1);
        }
    }
}
