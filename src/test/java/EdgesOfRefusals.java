import java.util.LinkedHashMap;
import java.util.Map;
import java.util.function.ToLongFunction;

/** Refused calls: each answers by its code and changes nothing, which a twin that wasn't asked shows. */
final class EdgesOfRefusals extends Edges {
    private static final String TEXT = "land places 4;lane 0 1 depth 1 soft 9;lane 1 2 depth 4;lane 0 2;cart at 0 pull 2;"
        + "person turns 0;person turns 8;rain 3;";
    private static final Map<String, Integer> CODES = new LinkedHashMap<>();
    private static final Map<String, ToLongFunction<RutWays>> CALLS = new LinkedHashMap<>();

    private EdgesOfRefusals() {
    }

    static void run() {
        says(TERMS, "Refused calls answer by a code and change nothing: -2 there is none such; -3 a number can't be; -4 too many;"
            + " -5 it can't be now; -6 a TRAY is MISSING; -7 it has no such number; -11 to -13 why not (1 to 3);"
            + " -30 less the FAULT: a text.");
        landCalls();
        deedCalls();
        askCalls();
        keepCalls();
        for (String call : CODES.keySet()) {
            refuse(call, CALLS.get(call), CODES.get(call));
        }
        says(TERMS, "(Of several that which the call tells first; all these ahead of NONE.)");
        severalCodes();
    }

    private static void add(int code, String call, ToLongFunction<RutWays> doing) {
        CODES.put(call, code);
        CALLS.put(call, doing);
    }

    private static void landCalls() {
        add(-3, "land(-1)", y -> y.land(-1));
        add(-3, "land(21)", y -> y.land(21));
        add(-2, "lane(3, 0)", y -> y.lane(3, 0));
        add(-2, "lane(0, 6)", y -> y.lane(0, 6));
        add(1, "why(3)", y -> y.why(3));
        add(-2, "worn(3)", y -> y.worn(3));
        add(-2, "fillings(3)", y -> y.fillings(3));
    }

    private static void deedCalls() {
        add(-11, "go(3)", y -> y.go(3));
        add(-12, "go(1)", y -> y.go(1));
        add(-13, "go(0)", y -> y.go(0));
        add(-11, "fill(3)", y -> y.fill(3));
        add(-12, "fill(2)", y -> y.fill(2));
        add(-11, "dig(-1)", y -> y.dig(-1));
        add(-12, "dig(1)", y -> y.dig(1));
        add(-11, "turn(2)", y -> y.turn(2));
        add(-3, "seasons(0)", y -> y.seasons(0));
        add(-3, "seasons(100)", y -> y.seasons(100));
        add(-11, "rain(10)", y -> y.rain(10));
        add(-3, "undo(0)", y -> y.undo(0));
        add(-3, "undo(8)", y -> y.undo(8));
        add(-3, "undo(11)", y -> y.undo(11));
        add(-2, "judge(4, 0)", y -> y.judge(4, 0));
        add(-2, "judge(0, 4)", y -> y.judge(0, 4));
        add(-6, "judge(3, 0)", y -> y.judge(3, 0));
        add(-2, "perform(4)", y -> y.perform(4));
        add(-6, "perform(3)", y -> y.perform(3));
        add(-3, "year(1, 0)", y -> y.year(1, 0));
        add(-3, "year(1, 41)", y -> y.year(1, 41));
    }

    private static void askCalls() {
        add(-2, "soonest(4)", y -> y.soonest(4));
        add(-2, "rows(4, 1)", y -> y.rows(4, 1));
        add(-3, "rows(0, 7)", y -> y.rows(0, 7));
        add(-2, "way(4, 0)", y -> y.way(4, 0));
        add(-3, "way(1, -1)", y -> y.way(1, -1));
        add(-2, "toAndFro(3)", y -> y.toAndFro(3));
        add(-2, "cheapest(4, 0)", y -> y.cheapest(4, 0));
        add(-2, "cheapest(0, 2)", y -> y.cheapest(0, 2));
        add(-2, "cheapBy(4, 0)", y -> y.cheapBy(4, 0));
        add(-3, "cheapBy(0, -1)", y -> y.cheapBy(0, -1));
        add(-2, "joins(2)", y -> y.joins(2));
        add(-2, "shuts(4, 0)", y -> y.shuts(4, 0));
        add(-2, "shuts(0, 2)", y -> y.shuts(0, 2));
        add(-2, "turning(2)", y -> y.turning(2));
        add(-2, "when(2)", y -> y.when(2));
        add(-2, "starts(2)", y -> y.starts(2));
        add(-2, "rains(4)", y -> y.rains(4));
        add(-6, "rains(3)", y -> y.rains(3));
        add(-4, "rains(2)", y -> y.rains(2));
        add(-3, "rains(0)", y -> y.rains(0));
        add(-2, "attempt(4)", y -> y.attempt(4));
        add(-6, "attempt(3)", y -> y.attempt(3));
        add(-4, "attempt(2)", y -> y.attempt(2));
        add(-3, "attempt(0)", y -> y.attempt(0));
        add(-2, "chance(4, 1, 0)", y -> y.chance(4, 1, 0));
        add(-2, "chance(0, 1, 2)", y -> y.chance(0, 1, 2));
        add(-3, "chance(0, 8, 0)", y -> y.chance(0, 8, 0));
        add(-2, "bestBy(4, 1)", y -> y.bestBy(4, 1));
        add(-3, "bestBy(0, 8)", y -> y.bestBy(0, 8));
    }

    private static void keepCalls() {
        add(-2, "numbers(4, 0, 1)", y -> y.numbers(4, 0, 1));
        add(-2, "numbers(0, 4, 1)", y -> y.numbers(0, 4, 1));
        add(-3, "numbers(0, 0, 41)", y -> y.numbers(0, 0, 41));
        add(-3, "numbers(1, 3, -1)", y -> y.numbers(1, 3, -1));
        add(-2, "write(4, 0, 1)", y -> y.write(4, 0, 1));
        add(-6, "write(3, 0, 1)", y -> y.write(3, 0, 1));
        add(-7, "write(0, 5, 1)", y -> y.write(0, 5, 1));
        add(-7, "write(2, 0, 1)", y -> y.write(2, 0, 1));
        add(-2, "lists(4, 1)", y -> y.lists(4, 1));
        add(-2, "lists(0, 4)", y -> y.lists(0, 4));
        add(-6, "lists(3, 1)", y -> y.lists(3, 1));
        add(-5, "lists(0, 3)", y -> y.lists(0, 3));
        add(-2, "image(2)", y -> y.image(2));
        add(-2, "restore(2)", y -> y.restore(2));
        add(-5, "restore(1)", y -> y.restore(1));
    }

    /** In a land, with a tape, trays 0 to 2, image 0, calls that can be undone. */
    private static RutWays made() {
        RutWays y = new RutWays();
        Check.tell(y, TEXT);
        y.dig(0);
        y.rain(5);
        y.image(0);
        y.dig(0);
        y.turn(0);
        y.dig(1);
        y.dig(1);
        y.rain(7);
        y.numbers(0, 2, 5);
        long[] deeds = {2, 33, 11, 50, 99};
        for (int i = 0; i < deeds.length; i++) {
            y.write(0, i, deeds[i]);
        }
        y.numbers(1, 1, 2);
        y.write(1, 0, 4);
        y.write(1, 1, 16);
        y.numbers(2, 0, 0);
        Check.tell(y, "land places 4; @");
        Check.feedText(y, "land places 2;rain 1");
        return y;
    }

    private static void refuse(String call, ToLongFunction<RutWays> doing, int code) {
        RutWays asked = made();
        RutWays twin = made();
        due(call, doing.applyAsLong(asked), code);
        same(call, asked, twin);
        due(call + ", then undo(7)", asked.undo(7), twin.undo(7));
        same(call + ", undone", asked, twin);
        due(call + ", then land(14)", asked.land(14), twin.land(14));
        same(call + ", in another land", asked, twin);
        due(call + ", then restore(0)", asked.restore(0), twin.restore(0));
        same(call + ", restored", asked, twin);
        due(call + ", then restore(1)", asked.restore(1), -5);
        due(call + ", then perform(0)", asked.perform(0), twin.perform(0));
        same(call + ", performed", asked, twin);
        for (int i = 0; i < 5; i++) {
            due(call + ", then the sort of tray 0", asked.write(0, i, -1L << 31), -1L << 31);
            due(call + ", then the sort of tray 1", asked.write(1, i, 1L << 15), i < 2 ? -(1L << 15) : -7);
        }
    }

    /** All that can be asked without a change is alike. */
    private static void same(String call, RutWays asked, RutWays twin) {
        for (int i = 0; i < 12; i++) {
            due(call + ", then count(" + i + ")", asked.count(i), twin.count(i));
        }
        for (int i = 0; i < 2; i++) {
            due(call + ", then fault(" + i + ")", asked.fault(i), twin.fault(i));
        }
        for (int l = 0; l < 3; l++) {
            for (int what = 0; what < 6; what++) {
                due(call + ", then lane(" + l + ", " + what + ")", asked.lane(l, what), twin.lane(l, what));
            }
        }
        for (int tray = 0; tray < 4; tray++) {
            for (int what = 0; what < 4; what++) {
                due(call + ", then judge(" + tray + ", " + what + ")", asked.judge(tray, what), twin.judge(tray, what));
            }
            due(call + ", then rains(" + tray + ")", asked.rains(tray), twin.rains(tray));
        }
        due(call + ", then reach()", asked.reach(), twin.reach());
    }

    private static void severalCodes() {
        x = made();
        due("rows: -2 ahead of -3", x.rows(4, 7), -2);
        due("way: -2 ahead of -3", x.way(4, -1), -2);
        due("way: -3 ahead of NONE", x.way(0, -1), -3);
        due("cheapest: -2 ahead of NONE", x.cheapest(3, 2), -2);
        due("cheapBy: -2 ahead of -3", x.cheapBy(4, -1), -2);
        due("cheapBy: -3 ahead of NONE", x.cheapBy(3, -1), -3);
        due("joins: -2 ahead of NONE", x.joins(2), -2);
        due("joins: NONE", x.joins(0), -1);
        due("shuts: -2 ahead of NONE", x.shuts(0, 2), -2);
        due("judge: -2 ahead of -6", x.judge(3, 4), -2);
        due("chance: -2 ahead of -3", x.chance(4, 8, 0), -2);
        due("chance: -2 ahead of -3", x.chance(0, 8, 2), -2);
        due("bestBy: -2 ahead of -3", x.bestBy(4, 8), -2);
        due("bestBy: -3 ahead of NONE", x.bestBy(0, 8), -3);
        due("numbers: -2 ahead of -3", x.numbers(4, 0, 41), -2);
        due("numbers: -2 ahead of -3", x.numbers(0, 4, 41), -2);
        due("write: -2 ahead of -7", x.write(4, 9, 0), -2);
        due("write: -6 ahead of -7", x.write(3, 9, 0), -6);
        due("lists: -2 ahead of -6", x.lists(3, 4), -2);
        due("lists: -6 ahead of -5", x.lists(3, 3), -6);
        x.numbers(0, 3, 9);
        x.write(0, 0, -1);
        due("rains: -4 ahead of -3", x.rains(0), -4);
        due("attempt: -4 ahead of -3", x.attempt(0), -4);
        x.numbers(0, 3, 2);
        x.write(0, 0, -1);
        due("attempt: -3 ahead of NONE", x.attempt(0), -3);
        due("go: 1 ahead of 2", x.go(-1), -11);
        due("go: 2 ahead of 3", x.go(1), -12);
        in("land places 3;lane 1 2;may:1=2;");
        due("go: 2 ahead of 3", x.go(0), -12);
        due("why: 2 ahead of 3", x.why(0), 2);
    }
}
