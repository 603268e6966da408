/** Edges of the cart, the laws, deeds, undoing, judging, years; promises 5 to 18. */
final class EdgesOfDeeds extends Edges {
    // The most that a sum is kept at, by numbers of three digits.
    private static final String MILLION = "(500+500)*(500+500)";
    private static final String NINE_LANES = "land places 2;" + times("lane 0 1 depth 3 soft 9;", 9) + "cart at 0 pull 9;"
        + times("person turns 8;", 8);
    // A lane from 0 to 1 that can be gone by, one from 0 to 1 that can't, one elsewhere.
    private static final String THREE_LANES = "land places 3;lane 0 1 depth 2;lane 0 1 depth 3;lane 1 2 depth 6;cart at 0 pull 2;";

    private EdgesOfDeeds() {
    }

    static void run() {
        going();
        wearing();
        keptFromTo();
        choosing();
        whatLawsSee();
        fillingAndDigging();
        seasons();
        whyNot();
        deedsByNumber();
        deedsOutOfBounds();
        undoing();
        asksOfLanes();
        callsOfDeeds();
        undoCalls();
        judging();
        performing();
        years();
    }

    private static void going() {
        says(TERMS, "2. THE CART is in a PLACE. It GOES by a LANE that leads on from there, if the law may holds (without one:"
            + " if the DEPTH of its RUT is no more than the PULL), to the other end;");
        for (int pull = 0; pull <= 9; pull++) {
            for (int depth = 0; depth <= 6; depth++) {
                in("land places 2;lane 1 0 depth " + depth + ";cart at 0 pull " + pull + ";");
                due("depth " + depth + ", pull " + pull, x.go(0), depth <= pull ? 1 : -13);
                due("it is there", x.count(3), depth <= pull ? 1 : 0);
            }
        }
        in("land places 2;lane 0 1 depth 6;cart at 0 pull 0;may:1=1;");
        due("the law, not the pull", x.go(0), 1);
        due("back to the other end", x.go(0), 0);
        in("land places 2;lane 0 1;cart at 0 pull 9;may:1=2;");
        due("the law, not the pull", x.go(0), -13);
        in("land places 3;lane 1 2;cart at 0 pull 9;");
        due("it doesn't lead on from there", x.go(0), -12);
        in("land places 7;lane 5 6;cart at 6 pull 0;");
        due("from the last place", x.go(0), 5);
    }

    private static void wearing() {
        says(TERMS, "the RUT is then as DEEP as the law wears tells, 0 at least, 6 at most");
        int[][] told = {{0, 0}, {1, 1}, {5, 5}, {6, 6}, {7, 6}, {8, 6}, {999, 6}};
        for (int[] t : told) {
            in("land places 2;lane 0 1 depth 3;cart at 0 pull 9;wears:" + t[0] + ";");
            due("worn, " + t[0], x.worn(0), t[1]);
            x.go(0);
            due("gone, " + t[0], x.lane(0, 2), t[1]);
            in("land places 2;lane 0 1 depth 3;cart at 0 pull 9;wears:0-" + t[0] + ";");
            due("worn, less than 0 by " + t[0], x.worn(0), 0);
            x.go(0);
            due("gone, less than 0 by " + t[0], x.lane(0, 2), 0);
        }
        in("land places 2;lane 0 1 depth 3;cart at 0 pull 9;wears:999*999*999;");
        due("6 at most", x.worn(0), 6);
        in("land places 2;lane 0 1 depth 3;cart at 0 pull 9;wears:0-999*999*999;");
        due("0 at least", x.worn(0), 0);
        says(TERMS, "(without one: 1 deeper, if soft and RAIN together are above 5, 6 at most, else as it was).");
        for (int soft = 0; soft <= 9; soft++) {
            for (int rain = 0; rain <= 9; rain++) {
                in("land places 2;lane 0 1 depth 5 soft " + soft + ";cart at 0 pull 9;rain " + rain + ";");
                int then = soft + rain > 5 ? 6 : 5;
                due("worn, soft " + soft + ", rain " + rain, x.worn(0), then);
                x.go(0);
                due("gone, soft " + soft + ", rain " + rain, x.lane(0, 2), then);
                x.go(0);
                due("6 at most", x.lane(0, 2), then);
            }
        }
    }

    private static void keptFromTo() {
        says(TERMS, "Each + - * is kept from -1,000,000 to 1,000,000;");
        sum("a million is kept as it is", MILLION + "-999*999-999-999", 1);
        sum("+ above it", MILLION + "+1-" + MILLION + "+1", 1);
        sum("+ to just it", MILLION + "-1+1-" + MILLION + "+1", 1);
        sum("- above it", MILLION + "-(0-1)-" + MILLION + "+1", 1);
        sum("* above it", "(500+500)*(501+500)-" + MILLION + "+1", 1);
        sum("less a million is kept as it is", "0-" + MILLION + "+" + MILLION + "+2", 2);
        sum("- below it", "0-" + MILLION + "-1+" + MILLION + "+1", 1);
        sum("+ below it", "0-" + MILLION + "+(0-1)+" + MILLION + "+1", 1);
        sum("- to just it", "0-" + MILLION + "+1-1+" + MILLION + "+1", 1);
        sum("* below it", "(0-500-500)*(501+500)+" + MILLION + "+1", 1);
        sum("* of both below 0", "(0-500-500)*(0-501-500)-" + MILLION + "+1", 1);
        sum("each, not the last alone", MILLION + "+" + MILLION + "-" + MILLION + "+3", 3);
        sum("more than an int holds", MILLION + "*(" + MILLION + ")-" + MILLION + "+3", 3);
        sum("less than an int holds", "(0-" + MILLION + ")*(" + MILLION + ")+" + MILLION + "+3", 3);
        sum("doubled", MILLION + "*2-" + MILLION + "+4", 4);
        in("land places 2;lane 0 1;may:" + MILLION + "+1=" + MILLION + ";");
        due("in may", x.why(0), 0);
        in("land places 2;lane 0 1;may:0-" + MILLION + "-1<0-" + MILLION + ";");
        due("in may", x.why(0), 3);
    }

    private static void sum(String what, String sum, int depth) {
        in("land places 2;lane 0 1 depth 6;wears:" + sum + ";");
        due(what, x.worn(0), depth);
    }

    private static void choosing() {
        says(TERMS, "if tells the one SUM, if the TRUTH holds, else the other one.");
        sum("it holds", "if 1=1 then 2 else 3 end", 2);
        sum("it doesn't", "if 1=2 then 2 else 3 end", 3);
        sum("sums", "if depth=6 then 1+1+1 else 2-1 end", 3);
        sum("sums", "if depth<6 then 1+1+1 else 2-1 end", 1);
        sum("one in another", "if 1=2 then 1 else if 1=1 then 4 else 5 end end", 4);
        sum("one in another", "if 1=1 then if 1=2 then 1 else 2 end else 5 end", 2);
        sum("one in a truth", "if if 1=2 then 1 else 2 end=2 then 5 else 4 end", 5);
        sum("the other one is too great, but isn't told", "if 1=1 then 1 else 999*999*999 end+1", 2);
    }

    private static void whatLawsSee() {
        says(TERMS, "In both laws: lane, depth, soft: of the LANE (DEPTH ahead); pull: the PULL; rain: the RAIN;"
            + " in may back: how many PEOPLE have TURNED BACK.");
        in("land places 2;lane 0 1 depth 2;cart at 0 pull 0;may:depth=2;wears:depth+3;");
        due("the depth ahead, in may", x.go(0), 1);
        due("the depth ahead, in wears", x.lane(0, 2), 5);
        in("land places 2;lane 0 1 depth 1;lane 0 1 depth 4;may:depth=1 and lane=0 or depth=4 and lane=1;wears:lane+depth;");
        due("of the lane", x.why(0) + x.why(1), 0);
        due("of the lane", x.worn(0), 1);
        due("of the lane", x.worn(1), 5);
        x.rain(9);
        due("nothing of the rain", x.worn(1), 5);
        in("land places 2;lane 0 1;may:rain=9;wears:rain-4;");
        due("rain 0", x.why(0), 3);
        x.rain(9);
        due("the rain as it is now", x.why(0), 0);
        due("the rain as it is now", x.worn(0), 5);
        in("land places 2;lane 0 1;cart at 0 pull 9;may:pull=9;wears:pull-8;");
        due("pull", x.why(0), 0);
        due("pull", x.worn(0), 1);
        for (int n = 0; n <= 8; n++) {
            in("land places 2;lane 0 1;" + times("person turns 8;", 8) + "may:back=" + n + ";");
            for (int p = 0; p < 8; p++) {
                due("back is " + p, x.why(0), p == n ? 0 : 3);
                x.turn(7 - p);
            }
            due("back is 8", x.why(0), n == 8 ? 0 : 3);
        }
        in("land places 2;lane 0 1;person turns 8 back;may:back=1;");
        due("one who has by the text", x.why(0), 0);
        x.turn(0);
        due("and hasn't any more", x.why(0), 3);
    }

    private static void fillingAndDigging() {
        says(TERMS, "To FILL a RUT: 1 less DEEP. To DIG it: 1 deeper. One TURNS BACK (or doesn't any more).");
        in("land places 2;lane 0 1 depth 6;person turns 8;");
        for (int depth = 5; depth >= 0; depth--) {
            due("fill", x.fill(0), depth);
            due("lane(0, 2)", x.lane(0, 2), depth);
        }
        for (int depth = 1; depth <= 6; depth++) {
            due("dig", x.dig(0), depth);
            due("lane(0, 2)", x.lane(0, 2), depth);
        }
        due("turn", x.turn(0), 1);
        due("or doesn't any more", x.turn(0), 0);
    }

    private static void seasons() {
        says(TERMS, "A SEASON: each who hasn't TURNS BACK, if as many others have as it is told, all at once. Other RAIN.");
        for (int told = 0; told <= 8; told++) {
            for (int have = 0; have <= 7; have++) {
                in("land places 1;person turns " + told + ";" + times("person turns 8 back;", have));
                due("told " + told + ", others " + have, x.seasons(1), have + (have >= told ? 1 : 0));
            }
        }
        in("land places 1;person turns 8 back;person turns 8;");
        due("who has stays so", x.seasons(99), 1);
        in("land places 1;person turns 0;person turns 1;person turns 1;");
        due("all at once: only one has none ahead", x.seasons(1), 1);
        due("who", x.count(6), 1);
        due("then two at once", x.seasons(1), 3);
        in("land places 1;person turns 1;person turns 1;");
        due("nobody begins", x.seasons(99), 0);
        in("land places 1;rain 3;");
        due("other rain", x.rain(8), 3);
        due("rain", x.count(5), 8);
    }

    private static void whyNot() {
        says(TERMS, "Why not: 1 no such LANE, PERSON, RAIN. 2 it doesn't lead on from there (GO), it is 0 DEEP (FILL), 6 (DIG)."
            + " 3 the law may (GO).");
        in(THREE_LANES + "person turns 1;");
        due("no such lane", x.why(3), 1);
        put(0, 3);
        due("no such lane, GO", x.judge(0, 1), 1);
        put(0, 13);
        due("no such lane, FILL", x.judge(0, 1), 1);
        put(0, 23);
        due("no such lane, DIG", x.judge(0, 1), 1);
        put(0, 41);
        due("no such person", x.judge(0, 1), 1);
        due("no such rain", x.rain(10), -11);
        put(0, 2);
        due("it doesn't lead on, though it is shut by the law, too", x.judge(0, 1), 2);
        put(0, 10, 10, 10);
        due("0 deep", x.judge(0, 1), 2);
        put(0, 22);
        due("6 deep", x.judge(0, 1), 2);
        put(0, 1);
        due("the law", x.judge(0, 1), 3);
        in("land places 2;lane 0 1;may:1=2;");
        put(0, 0);
        due("the law", x.judge(0, 1), 3);
    }

    private static void deedsByNumber() {
        says(TERMS, "DEEDS in a TRAY: 0 to 9: it GOES by LANE v; 10 to 19: RUT v - 10 is FILLED; 20 to 29: RUT v - 20 is DUG;"
            + " 30 to 39: RAIN v - 30; 40 to 49: PERSON v - 40 TURNS BACK, or not any more; 50: a SEASON; others: 1.");
        for (int v = -3; v <= 70; v++) {
            in(NINE_LANES);
            put(0, v);
            boolean can = v >= 0 && v <= 50 && v != 9 && v != 19 && v != 29 && v != 48 && v != 49;
            due("judge, deed " + v, x.judge(0, 1), can ? 0 : 1);
            due("perform, deed " + v, x.perform(0), can ? 1 : 0);
            due("cart, deed " + v, x.count(3), can && v < 9 ? 1 : 0);
            int sum = 27;
            sum += can && v < 9 ? 1 : 0;
            sum += can && v >= 10 && v < 19 ? -1 : 0;
            sum += can && v >= 20 && v < 29 ? 1 : 0;
            due("depths, deed " + v, x.count(7), sum);
            for (int l = 0; l < 9; l++) {
                int depth = v == l || v == 20 + l ? 4 : v == 10 + l ? 2 : 3;
                due("lane " + l + ", deed " + v, x.lane(l, 2), depth);
            }
            due("rain, deed " + v, x.count(5), v >= 30 && v < 40 ? v - 30 : 0);
            due("back, deed " + v, x.count(6), v >= 40 && v < 48 ? 1 << v - 40 : 0);
            due("went, deed " + v, x.count(8), can && v < 9 ? 1 : 0);
        }
        in("land places 1;person turns 0;person turns 1;");
        put(0, 50, 50, 40);
        due("seasons, and one not any more", x.perform(0), 3);
        due("who", x.count(6), 2);
    }

    private static void deedsOutOfBounds() {
        says(TERMS, "others: 1.");
        in(NINE_LANES);
        long[] odd = {-1, -10, -50, 51, 99, 100, 127, 128, 255, 256, 306, 1L << 31, 1L << 32, (1L << 32) + 50, -(1L << 32) + 50,
            Long.MAX_VALUE, Long.MIN_VALUE, Long.MIN_VALUE + 50};
        for (long v : odd) {
            put(0, v);
            due("judge, deed " + v, x.judge(0, 0), 0);
            due("why, deed " + v, x.judge(0, 1), 1);
            due("perform, deed " + v, x.perform(0), 0);
        }
        due("all stays", x.count(9), 0);
    }

    private static void undoing() {
        says(TERMS, "Calls that did some can be UNDONE each as a whole, the latest first, 10 at most (eldest are forgotten):"
            + " the cart, RUTS, who has TURNED BACK, RAIN, how often it WENT.");
        in("land places 2;lane 0 1 soft 9;cart at 0 pull 9;person turns 0;person turns 1;rain 2;");
        put(0, 0, 0, 0, 37, 50, 50, 20);
        due("perform", x.perform(0), 7);
        due("one call", x.count(9), 1);
        due("undo(1)", x.undo(1), 0);
        due("the cart", x.count(3), 0);
        due("ruts", x.count(7), 0);
        due("who has turned back", x.count(6), 0);
        due("rain", x.count(5), 2);
        due("how often it went", x.count(8), 0);
        x.rain(3);
        x.rain(4);
        x.rain(5);
        due("the latest first", x.undo(1), 2);
        due("rain", x.count(5), 4);
        due("the next", x.undo(1), 1);
        due("rain", x.count(5), 3);
        due("the first", x.undo(1), 0);
        due("rain", x.count(5), 2);
        for (int i = 0; i < 9; i++) {
            x.rain(i);
        }
        due("nine", x.count(9), 9);
        x.rain(9);
        due("ten", x.count(9), 10);
        due("all ten", x.undo(10), 0);
        due("as it was ahead of the ten", x.count(5), 2);
        for (int i = 0; i < 11; i++) {
            x.rain(i % 10);
        }
        due("ten of eleven", x.count(9), 10);
        due("ten of eleven", x.undo(10), 0);
        due("the eldest is forgotten: its rain stays", x.count(5), 0);
        due("nothing more", x.undo(1), -3);
        for (int i = 0; i < 47; i++) {
            x.rain(i % 10);
        }
        for (int i = 45; i > 36; i--) {
            due("one more", x.undo(1), i - 36);
            due("rain", x.count(5), i % 10);
        }
        due("the tenth", x.undo(1), 0);
        due("rain", x.count(5), 6);
        due("no eleventh", x.undo(1), -3);
        kindsOfCalls();
    }

    /** Each call that does some can be undone, those that only ask can't. */
    private static void kindsOfCalls() {
        in("land places 2;lane 0 1 depth 1;cart at 0 pull 9;person turns 0;");
        x.go(0);
        x.fill(0);
        x.dig(0);
        x.turn(0);
        x.seasons(1);
        x.rain(1);
        put(0, 35);
        x.perform(0);
        x.year(1, 40);
        due("eight calls", x.count(9), 8);
        x.judge(0, 0);
        x.reach();
        x.rows(1, 6);
        x.toAndFro(0);
        x.cheapest(1, 0);
        x.turning(0);
        x.wins();
        x.chance(1, 7, 0);
        x.lists(0, 1);
        x.image(0);
        x.go(7);
        x.fill(7);
        x.dig(7);
        x.turn(7);
        x.seasons(0);
        x.rain(10);
        x.year(1, 0);
        put(0, 99);
        x.perform(0);
        due("eight calls still", x.count(9), 8);
    }

    private static void asksOfLanes() {
        says(5, "Of a LANE, what 0, 1: its ends as told, 2: how DEEP, 3: soft, 4: risk, 5: 1 if it is OPEN, else 0. -2.");
        in("land places 7;lane 6 0 depth 6 soft 9 risk 10;lane 0 6 depth 1;cart at 3 pull 1;");
        int[] first = {6, 0, 6, 9, 10, 0};
        int[] second = {0, 6, 1, 0, 0, 1};
        for (int what = 0; what < 6; what++) {
            due("lane(0, " + what + ")", x.lane(0, what), first[what]);
            due("lane(1, " + what + ")", x.lane(1, what), second[what]);
        }
        for (int what : new int[] {-1, 6, 7, MIN, MAX}) {
            due("what " + what, x.lane(0, what), -2);
        }
        for (int l : new int[] {-1, 2, 9, 31, 32, MIN, MAX}) {
            due("lane " + l, x.lane(l, 0), -2);
            due("lane " + l, x.lane(l, 5), -2);
        }
        says(6, "Why it can't GO by a LANE now (0: it can).");
        in(THREE_LANES);
        due("it can", x.why(0), 0);
        due("the law", x.why(1), 3);
        due("not from there", x.why(2), 2);
        for (int l : new int[] {-1, 3, 9, 10, MIN, MAX}) {
            due("no lane " + l, x.why(l), 1);
        }
        says(7, "How DEEP a RUT would be, if it WENT there now (may or may not). -2.");
        in("land places 3;lane 0 1 depth 5 soft 6;lane 1 2 depth 6 soft 6;lane 1 2 soft 5;");
        due("not open", x.worn(0), 6);
        due("not from there, 6 at most", x.worn(1), 6);
        due("as it was", x.worn(2), 0);
        for (int l : new int[] {-1, 3, 9, MIN, MAX}) {
            due("no lane " + l, x.worn(l), -2);
        }
        says(8, "FILLINGS of a LANE: how many. NONE: never; -2.");
        in("land places 2;lane 0 1 depth 6;lane 0 1;lane 0 1 depth 3;may:lane<2 and depth=0;");
        due("six", x.fillings(0), 6);
        due("none needed", x.fillings(1), 0);
        due("never", x.fillings(2), -1);
        for (int l : new int[] {-1, 3, 9, MIN, MAX}) {
            due("no lane " + l, x.fillings(l), -2);
        }
    }

    private static void callsOfDeeds() {
        says(9, "It GOES: the PLACE then. -11, -12, -13.");
        in(THREE_LANES);
        for (int l : new int[] {-1, 3, 9, 10, 20, 30, 40, 50, MIN, MAX, -10}) {
            due("go(" + l + ")", x.go(l), -11);
        }
        due("go(2)", x.go(2), -12);
        due("go(1)", x.go(1), -13);
        due("nothing was done", x.count(9) + x.count(8) + x.count(3), 0);
        due("go(0)", x.go(0), 1);
        due("it went", x.count(8), 1);
        due("go(2)", x.go(2), -13);
        says(10, "To FILL: how DEEP then. -11, -12.");
        in("land places 2;lane 0 1 depth 1;");
        for (int l : new int[] {-1, 1, 9, 10, -10, MIN, MAX}) {
            due("fill(" + l + ")", x.fill(l), -11);
        }
        due("fill(0)", x.fill(0), 0);
        due("fill(0)", x.fill(0), -12);
        due("it stays", x.lane(0, 2), 0);
        due("one call", x.count(9), 1);
        says(11, "To DIG: how DEEP then. -11, -12.");
        in("land places 2;lane 0 1 depth 5;");
        for (int l : new int[] {-1, 1, 9, 10, -10, -20, MIN, MAX}) {
            due("dig(" + l + ")", x.dig(l), -11);
        }
        due("dig(0)", x.dig(0), 6);
        due("dig(0)", x.dig(0), -12);
        due("it stays", x.lane(0, 2), 6);
        due("one call", x.count(9), 1);
        says(12, "One TURNS BACK, or not any more: 1 if it has then, else 0. -11.");
        in("land places 1;" + times("person turns 8;", 8));
        for (int p : new int[] {-1, 8, 9, 10, 31, 32, -40, MIN, MAX}) {
            due("turn(" + p + ")", x.turn(p), -11);
        }
        due("turn(7)", x.turn(7), 1);
        due("who", x.count(6), 128);
        due("turn(0)", x.turn(0), 1);
        due("turn(7)", x.turn(7), 0);
        due("who", x.count(6), 1);
        in("land places 1;");
        due("nobody", x.turn(0), -11);
        says(13, "n SEASONS (1 to 99): how many have TURNED BACK then. -3.");
        StringBuilder chain = new StringBuilder("land places 1;");
        for (int p = 7; p >= 0; p--) {
            chain.append("person turns ").append(p).append(";");
        }
        in(chain.toString());
        for (int n : new int[] {0, -1, 100, 101, MIN, MAX}) {
            due("seasons(" + n + ")", x.seasons(n), -3);
        }
        due("nothing was done", x.count(9) + x.count(6), 0);
        due("one season", x.seasons(1), 1);
        due("two", x.seasons(2), 3);
        due("99", x.seasons(99), 8);
        due("three calls", x.count(9), 3);
        due("98, in which nobody turns", x.seasons(98), 8);
        due("that can be undone, too", x.undo(2), 2);
        due("how it was", x.count(6), 128 + 64 + 32);
        says(14, "Other RAIN (0 to 9): what it was. -11.");
        in("land places 1;rain 9;");
        for (int n : new int[] {-1, 10, 11, -30, MIN, MAX}) {
            due("rain(" + n + ")", x.rain(n), -11);
        }
        due("rain stays", x.count(5), 9);
        due("nothing was done", x.count(9), 0);
        due("rain(0)", x.rain(0), 9);
        due("rain(9)", x.rain(9), 0);
        due("rain(9), as it is", x.rain(9), 9);
        due("three calls", x.count(9), 3);
    }

    private static void undoCalls() {
        says(15, "n calls (1 to 10) are UNDONE: how many still can be. -3: n, more than can be.");
        in("land places 1;");
        for (int n : new int[] {1, 0, -1, 10, 11, MIN, MAX}) {
            due("undo(" + n + ") of none", x.undo(n), -3);
        }
        for (int i = 1; i <= 9; i++) {
            x.rain(i);
            due("more than can be", x.undo(i + 1), -3);
        }
        x.rain(0);
        for (int n : new int[] {0, -1, 11, 12, MIN, MAX}) {
            due("undo(" + n + ") of ten", x.undo(n), -3);
        }
        due("rain stays", x.count(5), 0);
        due("ten can be", x.count(9), 10);
        due("undo(3)", x.undo(3), 7);
        due("rain", x.count(5), 7);
        due("undo(8)", x.undo(8), -3);
        due("undo(7)", x.undo(7), 0);
        due("rain", x.count(5), 0);
        x.rain(5);
        due("what was done behind", x.undo(1), 0);
        due("rain", x.count(5), 0);
        for (int i = 0; i < 12; i++) {
            x.rain(i % 10);
        }
        due("undo(11)", x.undo(11), -3);
        due("undo(10)", x.undo(10), 0);
        due("rain", x.count(5), 1);
    }

    private static void judging() {
        says(16, "DEEDS, judged as if done, what 0: the first place that can't be (NONE), 1: why (0), 2: the PLACE of the cart then,"
            + " 3: all DEPTHS together then. -2: the TRAY, what; -6.");
        in(THREE_LANES);
        x.numbers(0, 0, 0);
        judged(-1, 0, 0, 11);
        put(0, 0);
        judged(-1, 0, 1, 11);
        put(0, 9);
        judged(0, 1, 0, 11);
        long[] forty = new long[40];
        put(0, forty);
        judged(-1, 0, 0, 11);
        forty[39] = 51;
        put(0, forty);
        judged(39, 1, 1, 11);
        put(0, 10, 10, 10, 20);
        judged(2, 2, 0, 9);
        put(0, 11, 1, 12, 12, 12, 12, 2, 20);
        judged(-1, 0, 2, 11 - 1 - 4 + 1);
        put(0, 1, 0);
        judged(0, 3, 0, 11);
        put(0, 0, 2);
        judged(1, 3, 1, 11);
        due("nothing was done", x.count(3) + x.count(8) + x.count(9), 0);
        due("nothing was done", x.count(7), 11);
        for (int tray : new int[] {-1, 4, 5, MIN, MAX}) {
            due("tray " + tray, x.judge(tray, 0), -2);
        }
        for (int what : new int[] {-1, 4, MIN, MAX}) {
            due("what " + what, x.judge(0, what), -2);
            due("what " + what + " of a missing one", x.judge(3, what), -2);
        }
        for (int what = 0; what < 4; what++) {
            due("missing", x.judge(3, what), -6);
        }
    }

    private static void judged(int place, int why, int cart, int depths) {
        due("judge(0, 0)", x.judge(0, 0), place);
        due("judge(0, 1)", x.judge(0, 1), why);
        due("judge(0, 2)", x.judge(0, 2), cart);
        due("judge(0, 3)", x.judge(0, 3), depths);
    }

    private static void performing() {
        says(17, "They are done, till one can't be: how many. -2; -6.");
        in(THREE_LANES);
        due("missing", x.perform(0), -6);
        for (int tray : new int[] {-1, 4, MIN, MAX}) {
            due("tray " + tray, x.perform(tray), -2);
        }
        x.numbers(0, 0, 0);
        due("no numbers", x.perform(0), 0);
        put(0, 1, 0, 0);
        due("the first can't be", x.perform(0), 0);
        due("no calls", x.count(9), 0);
        put(3, 0, 0, 51, 0);
        due("the third can't be", x.perform(3), 2);
        due("the fourth isn't done", x.count(3), 0);
        due("it went", x.count(8), 2);
        due("one call", x.count(9), 1);
        put(3, new long[40]);
        due("forty", x.perform(3), 40);
        due("it went", x.count(8), 42);
        due("as one call", x.undo(1), 1);
        due("it went", x.count(8), 2);
    }

    private static void years() {
        says(TERMS, "A YEAR by a SEED (x, an int; a DRAW: x becomes 1103515245 x + 12345, it is x >>> 16): so many times (1 to 40):"
            + " DRAW modulo 8: 0, 1, 2 it GOES by LANE DRAW modulo 9; 3 RUT DRAW modulo 9 is FILLED; 4 RUT DRAW modulo 9 is DUG;"
            + " 5 RAIN DRAW modulo 10; 6 PERSON DRAW modulo 8 TURNS BACK, or not any more; 7 a SEASON; as in a TRAY, if it can be.");
        int[] seeds = {0, 1, -1, 2, 65535, 65536, MAX, MIN, MAX - 1, 123456789, -123456789};
        for (int seed : seeds) {
            yearLikeTray(seed, 40);
        }
        for (int seed = 100; seed < 164; seed++) {
            yearLikeTray(seed * 7919, 1);
        }
        says(18, "A YEAR: how many could be. -3: how many times.");
        in(NINE_LANES);
        for (int times : new int[] {0, -1, 41, 42, MIN, MAX}) {
            due("year(5, " + times + ")", x.year(5, times), -3);
        }
        due("nothing was done", x.count(9), 0);
        yearLikeTray(5, 1);
        yearLikeTray(5, 39);
        yearLikeTray(5, 40);
        yearOfNothing();
    }

    /** A year, drawn here in whole numbers without an end, does what a tray of the deeds that can be does. */
    private static void yearLikeTray(int seed, int times) {
        long[] s = {seed};
        in(NINE_LANES);
        int done = 0;
        for (int i = 0; i < times; i++) {
            int kind = draw(s) % 8;
            int deed = kind == 7 ? 50 : kind == 6 ? 40 + draw(s) % 8 : kind == 5 ? 30 + draw(s) % 10 : kind == 4 ? 20 + draw(s) % 9
                : kind == 3 ? 10 + draw(s) % 9 : draw(s) % 9;
            put(0, deed);
            done += x.perform(0);
        }
        int[] then = new int[9];
        int[] deep = new int[9];
        for (int i = 0; i < 9; i++) {
            then[i] = x.count(i);
            deep[i] = x.lane(i, 2);
        }
        in(NINE_LANES);
        due("year(" + seed + ", " + times + ")", x.year(seed, times), done);
        for (int i = 0; i < 9; i++) {
            due("count(" + i + ") behind year(" + seed + ", " + times + ")", x.count(i), then[i]);
            due("depth of lane " + i + " behind year(" + seed + ", " + times + ")", x.lane(i, 2), deep[i]);
        }
        due("one call, if it did some", x.count(9), done > 0 ? 1 : 0);
        due("undone as a whole", x.undo(1), done > 0 ? 0 : -3);
        int[] ahead = {2, 9, 8, 0, 9, 0, 0, 27, 0};
        for (int i = 0; i < 9; i++) {
            due("count(" + i + ") ahead of it", x.count(i), ahead[i]);
            due("depth of lane " + i + " ahead of it", x.lane(i, 2), 3);
        }
    }

    private static int draw(long[] s) {
        java.math.BigInteger next = java.math.BigInteger.valueOf(s[0]).multiply(java.math.BigInteger.valueOf(1103515245L))
            .add(java.math.BigInteger.valueOf(12345L));
        s[0] = next.mod(java.math.BigInteger.ONE.shiftLeft(32)).longValue();
        return (int) (s[0] >> 16);
    }

    /** Of a land without lanes and people only rain and seasons can be; where neither is drawn, nothing can be undone. */
    private static void yearOfNothing() {
        for (int seed = 0; seed < 40; seed++) {
            long[] s = {seed};
            int kind = draw(s) % 8;
            x = new RutWays();
            due("year(" + seed + ", 1)", x.year(seed, 1), kind == 5 || kind == 7 ? 1 : 0);
            due("calls", x.count(9), kind == 5 || kind == 7 ? 1 : 0);
            due("rain", x.count(5), kind == 5 ? draw(s) % 10 : 0);
        }
    }
}
