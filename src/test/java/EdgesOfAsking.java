/** Edges of what can be asked: coming, fewest, turning back, worn, by turns, through; promises 19 to 36. */
final class EdgesOfAsking extends Edges {
    private static final String CHAIN = chain("");
    private static final String NINE_BESIDE = "land places 2;" + times("lane 0 1;", 9);

    private EdgesOfAsking() {
    }

    static void run() {
        openLanes();
        fillings();
        coming();
        rows();
        ways();
        toAndFro();
        cheapest();
        joining();
        shutting();
        turning();
        starting();
        wornTrays();
        rains();
        attempts();
        byTurns();
        through();
        bestBy();
    }

    /** Seven places, one behind the other, with these flags of each lane. */
    private static String chain(String flags) {
        StringBuilder s = new StringBuilder("land places 7;");
        for (int l = 0; l < 6; l++) {
            s.append("lane ").append(l).append(" ").append(l + 1).append(flags).append(";");
        }
        return s.toString();
    }

    private static void openLanes() {
        says(TERMS, "3. OPEN: a LANE in which the law may holds now, the RUT as it is (in which way is one).");
        in("land places 4;lane 0 1 depth 2;lane 1 2 depth 3;lane 3 2 depth 2;cart at 1 pull 2;rain 4;");
        due("from its second end", x.lane(0, 5), 1);
        due("too deep", x.lane(1, 5), 0);
        due("where the cart isn't", x.lane(2, 5), 1);
        x.dig(0);
        due("the rut as it is", x.lane(0, 5), 0);
        x.fill(1);
        due("the rut as it is", x.lane(1, 5), 1);
        in("land places 2;lane 0 1;person turns 1;person turns 0;rain 3;may:back=1 and rain=4;");
        due("not now", x.lane(0, 5), 0);
        x.rain(4);
        due("not now", x.lane(0, 5), 0);
        x.seasons(1);
        due("now", x.lane(0, 5), 1);
        x.seasons(1);
        due("not any more", x.lane(0, 5), 0);
    }

    private static void fillings() {
        says(TERMS, "FILLINGS of a LANE: as many as it must be FILLED now, one behind the other, till it is OPEN"
            + " (never, if it isn't when 0 DEEP either).");
        for (int depth = 0; depth <= 6; depth++) {
            for (int at = 0; at <= 6; at++) {
                in("land places 2;lane 0 1 depth " + depth + ";may:depth=" + at + ";");
                due("depth " + depth + ", open at " + at, x.fillings(0), at <= depth ? depth - at : -1);
                in("land places 2;lane 0 1 depth " + depth + ";cart at 0 pull " + at + ";");
                due("depth " + depth + ", pull " + at, x.fillings(0), Math.max(0, depth - at));
            }
        }
        in("land places 2;lane 0 1 depth 6;may:depth=5 or depth=1;");
        due("the first that opens it", x.fillings(0), 1);
        x.fill(0);
        x.fill(0);
        due("the next one then", x.fillings(0), 3);
        due("it isn't filled by asking", x.lane(0, 2), 4);
    }

    private static void coming() {
        says(TERMS, "COMING by OPEN LANES to a PLACE (ruts not wearing).");
        in("land places 3;lane 0 1 soft 9;lane 1 2 soft 9;cart at 0 pull 0;wears:6;");
        due("reach()", x.reach(), 7);
        due("soonest(2)", x.soonest(2), 2);
        due("ruts stay", x.count(7), 0);
        says(19, "PLACES to which it can COME by OPEN LANES (where it is, too), as bits.");
        due("all three", x.reach(), 7);
        in("land places 7;cart at 6 pull 9;");
        due("where it is", x.reach(), 64);
        in(CHAIN + "cart at 3 pull 0;");
        due("all seven", x.reach(), 127);
        x.dig(0);
        x.dig(5);
        due("but the first and the last", x.reach(), 62);
        x = new RutWays();
        due("without a land", x.reach(), 1);
        says(20, "COMING to a PLACE by OPEN LANES: the fewest. NONE: it can't; -2.");
        in(CHAIN);
        for (int k = 0; k < 7; k++) {
            due("soonest(" + k + ")", x.soonest(k), k);
        }
        x.dig(5);
        due("it can't", x.soonest(6), -1);
        for (int k : new int[] {-1, 7, 31, 32, MIN, MAX}) {
            due("no place " + k, x.soonest(k), -2);
        }
        in("land places 4;lane 0 1;lane 1 2;lane 2 3;lane 0 2;lane 0 3 depth 1;");
        due("the fewest", x.soonest(3), 2);
        due("where it is", x.soonest(0), 0);
    }

    private static void rows() {
        says(TERMS, "A ROW: LANES by which it GOES from now on, one behind the other, WEARING as it GOES, nothing else being done.");
        in("land places 2;lane 0 1 soft 9;cart at 0 pull 1;");
        due("ahead of the wearing", x.rows(1, 1), 1);
        due("worn once", x.rows(0, 2), 1);
        due("too deep then", x.rows(1, 3), 0);
        in("land places 2;lane 0 1 depth 2;lane 0 1 depth 3;wears:depth-1;may:depth>1;");
        due("one lane once, the other twice, in three orders", x.rows(1, 3), 3);
        due("none is left", x.rows(0, 4), 0);
        in("land places 2;lane 0 1;lane 0 1;wears:5;may:depth=0 or depth=5;");
        due("ruts stay", x.count(7), 0);
        due("other depths, open again", x.rows(0, 6), 64);
        for (int l = 0; l < 9; l++) {
            in("land places 2;" + times("lane 0 1 depth 6;", l) + "lane 0 1 depth 6 soft 1;" + times("lane 0 1 depth 6;", 8 - l)
                + "may:soft=1 and depth=6;wears:6;");
            due("lane " + l + " alone, at its deepest", x.rows(0, 4), 1);
            due("lane " + l + " alone, at its deepest", x.rows(1, 3), 1);
        }
        says(21, "How many ROWS of just n LANES (0 to 6) there are behind which it is in a PLACE. -2; -3.");
        in(NINE_BESIDE);
        int[] all = {1, 9, 81, 729, 6561, 59049, 531441};
        for (int n = 0; n <= 6; n++) {
            due("rows(0, " + n + ")", x.rows(0, n), n % 2 == 0 ? all[n] : 0);
            due("rows(1, " + n + ")", x.rows(1, n), n % 2 == 1 ? all[n] : 0);
        }
        for (int n : new int[] {-1, 7, 8, MIN, MAX}) {
            due("rows(0, " + n + ")", x.rows(0, n), -3);
        }
        for (int k : new int[] {-1, 2, 7, MIN, MAX}) {
            due("rows(" + k + ", 0)", x.rows(k, 0), -2);
            due("rows(" + k + ", 7)", x.rows(k, 7), -2);
        }
        in("land places 4;lane 0 1 soft 9;lane 1 2 soft 9;cart at 0 pull 0;");
        due("each once, too deep behind", x.rows(2, 2), 1);
        due("back by the same", x.rows(0, 2), 0);
        for (int n = 0; n <= 6; n++) {
            due("where it can't come, by " + n, x.rows(3, n), 0);
        }
        in(CHAIN);
        due("six lanes", x.rows(6, 6), 1);
        due("five", x.rows(6, 5), 0);
        due("none", x.rows(6, 0), 0);
        due("none, where it is", x.rows(0, 0), 1);
        for (int depth = 0; depth <= 6; depth++) {
            in("land places 2;lane 0 1 depth " + depth + " soft 9;cart at 0 pull 5;");
            for (int n = 1; n <= 6; n++) {
                due("depth " + depth + ", " + n + " lanes", x.rows(n % 2, n), depth + n - 1 <= 5 ? 1 : 0);
            }
        }
    }

    private static void ways() {
        says(TERMS, "Of like ROWS the first by LANES.");
        in("land places 4;lane 2 3;lane 1 3;lane 0 2;lane 0 1;lane 1 3;");
        due("the first lane counts first", x.way(3, 0), 2);
        due("then the second", x.way(3, 1), 0);
        in("land places 4;lane 2 3;lane 1 3;lane 0 1;lane 0 2;lane 1 3;");
        due("the first lane counts first", x.way(3, 0), 2);
        due("then the second", x.way(3, 1), 1);
        says(22, "The i-th LANE of the shortest ROW (1 to 6 LANES) behind which it is in a PLACE, of like ones the first."
            + " NONE: not so many, there is none, it is there now; -2; -3: i is below 0.");
        in(CHAIN);
        for (int i = 0; i < 6; i++) {
            due("the last place, lane " + i, x.way(6, i), i);
        }
        due("not so many", x.way(6, 6), -1);
        due("not so many", x.way(6, MAX), -1);
        due("not so many", x.way(1, 1), -1);
        due("one lane", x.way(1, 0), 0);
        due("it is there now", x.way(0, 0), -1);
        x.dig(5);
        due("there is none", x.way(6, 0), -1);
        for (int k : new int[] {-1, 7, MIN, MAX}) {
            due("no place " + k, x.way(k, 0), -2);
            due("no place " + k + " goes first", x.way(k, -1), -2);
        }
        for (int i : new int[] {-1, MIN}) {
            due("i " + i, x.way(5, i), -3);
            due("i " + i + ", there is none", x.way(6, i), -3);
            due("i " + i + ", it is there", x.way(0, i), -3);
        }
        in("land places 3;lane 0 1;lane 1 2;lane 0 2;");
        due("the shortest", x.way(2, 0), 2);
        due("not so many", x.way(2, 1), -1);
        in("land places 4;lane 0 3 depth 1;lane 0 1;lane 1 2;lane 2 3;");
        due("not by one that isn't open, though it leads on", x.way(1, 0), 1);
        due("not by one that isn't open", x.way(3, 0), 1);
        in("land places 2;lane 0 1 soft 9;lane 0 1;cart at 0 pull 0;");
        due("it would be too deep behind, but not ahead", x.way(1, 0), 0);
    }

    private static void toAndFro() {
        says(23, "How often it can GO in a LANE, to and fro, from one of its ends, WEARING it, nothing else being done (100 at most). -2.");
        for (int depth = 0; depth <= 6; depth++) {
            in("land places 3;lane 1 2 depth " + depth + " soft 6;cart at 0 pull 5;");
            due("depth " + depth, x.toAndFro(0), 6 - depth);
        }
        in("land places 2;lane 0 1 soft 6;cart at 0 pull 6;");
        due("6 deep is no more than the pull: 100", x.toAndFro(0), 100);
        in("land places 2;lane 0 1;wears:6-depth;may:1=1;");
        due("100 at most", x.toAndFro(0), 100);
        in("land places 2;lane 0 1;may:1=2;");
        due("not once", x.toAndFro(0), 0);
        in("land places 2;lane 0 1 depth 6;wears:depth-1;may:depth>0;");
        due("six", x.toAndFro(0), 6);
        due("nothing was done", x.lane(0, 2), 6);
        for (int l : new int[] {-1, 1, 9, MIN, MAX}) {
            due("no lane " + l, x.toAndFro(l), -2);
        }
    }

    private static void cheapest() {
        says(TERMS, "CHEAPEST to a PLACE: LANES that lead there from where it is, one behind the other, none twice, the fewest"
            + " FILLINGS of these together; of like ones the fewest LANES, of like ones the first by LANES.");
        in("land places 7;lane 0 6 depth 1;lane 0 1;lane 1 2;lane 2 3;lane 3 4;lane 4 5;lane 5 6;");
        due("six lanes by which none is filled", x.cheapest(6, 0), 0);
        due("six lanes", x.cheapest(6, 1), 6);
        x.dig(6);
        due("like fillings", x.cheapest(6, 0), 1);
        due("the fewest lanes", x.cheapest(6, 1), 1);
        due("the lane", x.cheapBy(6, 0), 0);
        x.fill(6);
        x.fill(0);
        due("none is filled by either", x.cheapest(6, 1), 1);
        in("land places 4;lane 1 3 depth 1;lane 2 3;lane 0 1;lane 0 2 depth 1;lane 0 2 depth 1;");
        due("like fillings and lanes", x.cheapest(3, 0), 1);
        due("the first by lanes", x.cheapBy(3, 0), 2);
        due("the first by lanes", x.cheapBy(3, 1), 0);
        in("land places 2;lane 0 1;lane 0 1 depth 1;");
        due("the lighter one, though it is told first", x.cheapest(1, 0), 0);
        in("land places 2;lane 0 1 depth 1;lane 0 1;");
        due("the lighter one, though it is told last", x.cheapBy(1, 0), 1);
        in(chain(" depth 6"));
        due("all that can be: 36", x.cheapest(6, 0), 36);
        due("six lanes", x.cheapest(6, 1), 6);
        says(24, "CHEAPEST to a PLACE, what 0: how many FILLINGS, 1: how many LANES. NONE: it can't be; -2.");
        in("land places 3;lane 0 1 depth 6;lane 1 2 depth 2;may:lane=0 and depth=0;");
        due("fillings", x.cheapest(1, 0), 6);
        due("lanes", x.cheapest(1, 1), 1);
        due("it can't be", x.cheapest(2, 0), -1);
        due("it can't be", x.cheapest(2, 1), -1);
        due("where it is", x.cheapest(0, 0), 0);
        due("where it is", x.cheapest(0, 1), 0);
        for (int k : new int[] {-1, 3, 7, MIN, MAX}) {
            due("no place " + k, x.cheapest(k, 0), -2);
        }
        for (int what : new int[] {-1, 2, MIN, MAX}) {
            due("what " + what, x.cheapest(1, what), -2);
            due("what " + what + ", ahead of NONE", x.cheapest(2, what), -2);
        }
        says(25, "The i-th LANE of it. NONE: not so many, it can't be; -2; -3: i is below 0.");
        due("the first", x.cheapBy(1, 0), 0);
        due("not so many", x.cheapBy(1, 1), -1);
        due("not so many", x.cheapBy(1, MAX), -1);
        due("where it is", x.cheapBy(0, 0), -1);
        due("it can't be", x.cheapBy(2, 0), -1);
        for (int i : new int[] {-1, MIN}) {
            due("i " + i, x.cheapBy(1, i), -3);
            due("i " + i + ", ahead of NONE", x.cheapBy(2, i), -3);
            due("i " + i + ", where it is", x.cheapBy(0, i), -3);
        }
        for (int k : new int[] {-1, 3, MIN, MAX}) {
            due("no place " + k, x.cheapBy(k, 0), -2);
            due("no place " + k + " goes first", x.cheapBy(k, -1), -2);
        }
        in("land places 4;lane 0 3 depth 1;lane 0 1;lane 1 2;lane 2 3;may:lane>0;");
        due("not by one that can't be opened, though it leads on", x.cheapBy(1, 0), 1);
        due("not by one that can't be opened", x.cheapBy(3, 0), 1);
        in(CHAIN);
        for (int i = 0; i < 6; i++) {
            due("lane " + i, x.cheapBy(6, i), i);
        }
        due("not so many", x.cheapBy(6, 6), -1);
    }

    private static void joining() {
        says(TERMS, "JOINING: LANES so that each PLACE can be come to from each one by these: the fewest FILLINGS of these together,"
            + " of like ones the fewest LANES, of like ones the least set as bits.");
        in("land places 3;lane 0 1 depth 2;lane 1 2 depth 1;lane 0 2 depth 1;");
        due("the fewest fillings", x.joins(0), 2);
        due("not the least set", x.joins(1), 6);
        in("land places 3;lane 0 1;lane 0 1;lane 1 2;lane 0 2;");
        due("the fewest lanes, the least set", x.joins(1), 5);
        in("land places 3;lane 1 2 depth 1;lane 0 1;lane 0 1;lane 1 2 depth 1;");
        due("fillings", x.joins(0), 1);
        due("the least set", x.joins(1), 3);
        in("land places 7;" + times("lane 0 1;", 3) + "lane 1 2;lane 2 3;lane 3 4;lane 4 5;lane 5 6;lane 6 0 depth 6;");
        due("six lanes of nine", x.joins(1), 1 + 8 + 16 + 32 + 64 + 128);
        x.dig(7);
        due("one filled", x.joins(0), 1);
        in(chain(" depth 6") + "cart at 6 pull 0;");
        due("all that can be: 36", x.joins(0), 36);
        due("all six", x.joins(1), 63);
        says(26, "JOINING, what 0: how many FILLINGS, 1: LANES, as bits. NONE: it can't be; -2: what.");
        in("land places 2;lane 0 1 depth 3;may:depth=1;");
        due("fillings", x.joins(0), 2);
        due("lanes", x.joins(1), 1);
        in("land places 2;lane 0 1;may:depth=1;");
        due("it can't be", x.joins(0), -1);
        due("it can't be", x.joins(1), -1);
        for (int what : new int[] {-1, 2, MIN, MAX}) {
            due("what " + what + ", ahead of NONE", x.joins(what), -2);
        }
        in("land places 3;lane 0 1;lane 1 2;may:lane=0;");
        due("one place can't be joined", x.joins(0), -1);
        due("one place can't be joined", x.joins(1), -1);
        in("land places 3;lane 0 1;lane 1 2;lane 2 0 depth 5;may:lane=0 or lane=2 and depth<2;");
        due("not by one that can't be opened", x.joins(0), 4);
        due("not by one that can't be opened", x.joins(1), 5);
        in("land places 2;");
        due("no lanes", x.joins(0), -1);
        in("land places 1;");
        due("one place is joined", x.joins(0), 0);
        due("by none", x.joins(1), 0);
        in(NINE_BESIDE);
        due("the first of nine", x.joins(1), 1);
    }

    private static void shutting() {
        says(TERMS, "SHUTTING: LANES to be shut so that it can't come to a PLACE by other OPEN ones: the fewest, of like ones the least"
            + " set as bits.");
        in("land places 4;lane 0 1;lane 1 3;lane 0 2;lane 2 3;");
        due("two ways: two lanes", x.shuts(3, 0), 2);
        due("the least set", x.shuts(3, 1), 5);
        in("land places 4;lane 0 1;lane 0 1;lane 1 2;lane 0 3;lane 2 3;");
        due("the fewest", x.shuts(2, 0), 2);
        due("the least set of these", x.shuts(2, 1), 4 + 8);
        x.dig(3);
        due("a lane that isn't open needn't be shut", x.shuts(2, 1), 4);
        says(27, "SHUTTING for a PLACE, what 0: how many, 1: LANES, as bits. NONE: by none (it is there); -2.");
        in(NINE_BESIDE);
        due("all nine", x.shuts(1, 0), 9);
        due("all nine", x.shuts(1, 1), 511);
        due("it is there", x.shuts(0, 0), -1);
        due("it is there", x.shuts(0, 1), -1);
        for (int what : new int[] {-1, 2, MIN, MAX}) {
            due("what " + what, x.shuts(1, what), -2);
            due("what " + what + ", ahead of NONE", x.shuts(0, what), -2);
        }
        for (int k : new int[] {-1, 2, 7, MIN, MAX}) {
            due("no place " + k, x.shuts(k, 0), -2);
        }
        in("land places 2;lane 0 1 depth 1;");
        due("none has to be shut", x.shuts(1, 0), 0);
        due("none has to be shut", x.shuts(1, 1), 0);
    }

    private static void turning() {
        says(TERMS, "TURNING: SEASONS, nothing else being done, till nobody TURNS BACK any more.");
        StringBuilder chain = new StringBuilder("land places 1;");
        for (int p = 7; p >= 0; p--) {
            chain.append("person turns ").append(p).append(";");
        }
        in(chain.toString());
        due("all eight", x.turning(0), 255);
        due("behind eight seasons", x.turning(1), 8);
        due("nothing is done by asking", x.count(6) + x.count(9), 0);
        says(28, "TURNING from now on, what 0: who has TURNED BACK then, as bits, 1: behind how many SEASONS nobody does any more. -2: what.");
        x.seasons(3);
        due("who", x.turning(0), 255);
        due("five seasons more", x.turning(1), 5);
        x.seasons(99);
        due("who", x.turning(0), 255);
        due("none more", x.turning(1), 0);
        for (int what : new int[] {-1, 2, MIN, MAX}) {
            due("what " + what, x.turning(what), -2);
        }
        in("land places 1;person turns 1;person turns 8 back;person turns 3;");
        due("who", x.turning(0), 3);
        due("one season", x.turning(1), 1);
        in("land places 1;");
        due("nobody", x.turning(0), 0);
        due("nobody", x.turning(1), 0);
        in("land places 1;person turns 1;");
        due("others, not itself", x.turning(0), 0);
        says(29, "In which SEASON of TURNING (1: the next one) one does. NONE: it doesn't, it has; -2.");
        in(chain.toString());
        for (int p = 0; p < 8; p++) {
            due("when(" + p + ")", x.when(p), 8 - p);
        }
        for (int p : new int[] {-1, 8, 9, 31, 32, MIN, MAX}) {
            due("no person " + p, x.when(p), -2);
        }
        x.seasons(1);
        due("it has", x.when(7), -1);
        due("the next one", x.when(6), 1);
        in("land places 1;person turns 8;person turns 0;person turns 2 back;");
        due("it doesn't", x.when(0), -1);
        due("the next one", x.when(1), 1);
        due("it has", x.when(2), -1);
        x = new RutWays();
        due("nobody", x.when(0), -2);
    }

    private static void starting() {
        says(TERMS, "STARTING: those who TURN BACK first, so that all have by TURNING: the fewest, of like ones the least set as bits.");
        in("land places 1;person turns 2;person turns 2;person turns 2;person turns 3;");
        due("two", x.starts(0), 2);
        due("the least set", x.starts(1), 3);
        in("land places 1;person turns 1;person turns 1;person turns 8;");
        due("the one who never would", x.starts(0), 1);
        due("not the least set", x.starts(1), 4);
        says(30, "STARTING (besides those who have), what 0: how many, 1: who, as bits. -2: what.");
        in("land places 1;" + times("person turns 8;", 8));
        due("all eight", x.starts(0), 8);
        due("all eight", x.starts(1), 255);
        x.turn(0);
        x.turn(7);
        due("but those who have", x.starts(0), 6);
        due("but those who have", x.starts(1), 126);
        for (int what : new int[] {-1, 2, MIN, MAX}) {
            due("what " + what, x.starts(what), -2);
        }
        in("land places 1;" + times("person turns 8 back;", 8));
        due("all have", x.starts(0), 0);
        due("all have", x.starts(1), 0);
        in("land places 1;" + times("person turns 0;", 8));
        due("nobody has to", x.starts(0), 0);
        due("nobody has to", x.starts(1), 0);
        x = new RutWays();
        due("nobody is there", x.starts(0), 0);
        due("nobody is there", x.starts(1), 0);
    }

    private static void wornTrays() {
        says(TERMS, "WORN in a TRAY (1 to 8 numbers: 10 times a LANE, and how DEEP its RUT would be, once it WENT there from now on,"
            + " may or may not; each by the RUTS as they are now): RAINS 0 to 9 by which it is so.");
        in("land places 2;" + times("lane 0 1 depth 2;", 9) + "rain 3;wears:if lane=8 and rain=9 then 6 else depth+rain end;may:1=2;");
        put(0, 82);
        due("rain 0", x.rains(0), 1);
        put(0, 86);
        due("rain 4 to 9", x.rains(0), 1023 - 15);
        put(0, 2, 12, 22, 32, 42, 52, 62, 72);
        due("eight numbers", x.rains(0), 1);
        put(0, 3, 3);
        due("the same twice, the rut isn't worn between", x.rains(0), 2);
        put(0, 3, 14);
        due("by no rain", x.rains(0), 0);
        due("it rains as it did", x.count(5), 3);
        x.fill(0);
        put(0, 2);
        due("by the ruts as they are now", x.rains(0), 2);
        in("land places 2;lane 0 1 depth 1;");
        put(0, 1);
        due("rains 0 to 5", x.rains(0), 63);
        put(0, 2);
        due("rains 6 to 9", x.rains(0), 1023 - 63);
    }

    private static void rains() {
        says(31, "WORN: RAINS, as bits. -2: the TRAY; -6; -4: not 1 to 8 numbers; -3: one is no LANE and 0 to 6.");
        in("land places 2;" + times("lane 0 1;", 9));
        for (int tray : new int[] {-1, 4, MIN, MAX}) {
            due("tray " + tray, x.rains(tray), -2);
        }
        due("missing", x.rains(0), -6);
        put(0);
        due("no numbers", x.rains(0), -4);
        put(0, 0);
        due("one", x.rains(0), 63);
        put(0, 1);
        due("one", x.rains(0), 1023 - 63);
        put(0, new long[8]);
        due("eight", x.rains(0), 63);
        put(0, new long[9]);
        due("nine", x.rains(0), -4);
        put(0, new long[40]);
        due("forty", x.rains(0), -4);
        put(0, -1, 0, 0, 0, 0, 0, 0, 0, 0);
        due("nine, one of which can't be", x.rains(0), -4);
        for (long v : new long[] {0, 6, 10, 16, 80, 86}) {
            put(0, v);
            due("a lane and 0 to 6: " + v, x.rains(0) >= 0 ? 1 : 0, 1);
        }
        for (long v : new long[] {-1, -4, -10, 7, 8, 9, 17, 19, 87, 89, 90, 96, 100, 1L << 31, 1L << 32, Long.MAX_VALUE, Long.MIN_VALUE}) {
            put(0, v);
            due("none: " + v, x.rains(0), -3);
            put(0, 0, 1, v);
            due("none, behind two by no rain: " + v, x.rains(0), -3);
        }
        in("land places 2;lane 0 1;");
        put(0, 10);
        due("no such lane", x.rains(0), -3);
        x.numbers(1, 0, 1);
        x.write(1, 0, 256);
        due("as it is in its tray", x.rains(1), 63);
    }

    private static void attempts() {
        says(32, "The LANE to try next: the greatest number of these RAINS by which its RUT would be as DEEP is least, the first."
            + " NONE: there are none, no LANES; as rains().");
        in("land places 2;lane 0 1 soft 6;lane 0 1 soft 1;lane 0 1 soft 2;lane 0 1 soft 1;");
        put(0, 1);
        due("ten rains, the greatest is ten by lane 0, then five", x.attempt(0), 1);
        put(0, 10);
        due("rains 0 to 4: four by lane 2", x.attempt(0), 2);
        put(0, 11);
        due("rains 5 to 9 tell nothing more: the first", x.attempt(0), 0);
        put(0, 10, 21);
        due("rain 4 alone: the first", x.attempt(0), 0);
        put(0, 11, 20);
        due("there are none", x.attempt(0), -1);
        in("land places 2;lane 0 1;lane 0 1;wears:if lane=0 then if rain<9 then 1 else 2 end else if rain<1 then 1 else 2 end end;");
        put(0, 1);
        due("rains 0 to 8", x.rains(0), 511);
        due("eight is less than nine", x.attempt(0), 1);
        put(0, 12);
        due("rains 1 to 9", x.rains(0), 1022);
        due("eight is less than nine", x.attempt(0), 0);
        in("land places 2;lane 0 1;lane 0 1;lane 0 1;wears:if lane=0 then 3 else if lane=1 then if rain<2 then 0 else 6 end"
            + " else if rain<3 then 0 else if rain<6 then 6 else 1 end end end end;");
        put(0, 3);
        due("eight by the greatest depth count, too; four is least", x.attempt(0), 2);
        in("land places 2;lane 0 1;lane 0 1;wears:if lane=0 then if rain=0 or rain=9 then 0 else 1 end else rain end;");
        put(0, 0);
        due("rains 0 and 9", x.rains(0), 513);
        due("the last rain counts, too", x.attempt(0), 1);
        for (int tray : new int[] {-1, 4, MIN, MAX}) {
            due("tray " + tray, x.attempt(tray), -2);
        }
        due("missing", x.attempt(3), -6);
        put(0);
        due("no numbers", x.attempt(0), -4);
        put(0, new long[9]);
        due("nine", x.attempt(0), -4);
        put(0, 7);
        due("no lane and 0 to 6", x.attempt(0), -3);
        x = new RutWays();
        put(0, 0);
        due("no lanes: no number can be", x.attempt(0), -3);
        due("no lanes: no number can be", x.rains(0), -3);
        put(0);
        due("no lanes, no numbers", x.attempt(0), -4);
    }

    private static void byTurns() {
        says(TERMS, "BY TURNS: two drive the cart, one LANE each time, OPEN now (ruts not wearing), none twice; who can't go on has lost;"
            + " both do their best.");
        in("land places 2;lane 0 1 soft 9;lane 0 1 soft 9;cart at 0 pull 0;");
        due("there and back, no lane twice", x.wins(), 0);
        x.dig(1);
        due("one that isn't open", x.wins(), 1);
        in("land places 4;lane 0 1;lane 1 2;lane 1 3;lane 3 2;lane 0 3;");
        // By 0 it comes to 1, the other goes by 1 to 2; by 4 it comes to 3, the other goes by 3 to 2, not by 2.
        due("both do their best", x.wins(), 0);
        x.dig(3);
        due("without lane 3 the other can only go by 2", x.best(), 4);
        says(33, "BY TURNS: 1 if the first one, who is on now, wins, else 0.");
        x = new RutWays();
        due("no lanes", x.wins(), 0);
        for (int n = 1; n <= 9; n++) {
            in("land places 2;" + times("lane 0 1;", n));
            due(n + " lanes beside one another", x.wins(), n % 2);
            due("the first", x.best(), n % 2 == 1 ? 0 : -1);
        }
        for (int n = 1; n <= 6; n++) {
            StringBuilder chain = new StringBuilder("land places 7;");
            for (int l = 0; l < n; l++) {
                chain.append("lane ").append(l).append(" ").append(l + 1).append(";");
            }
            in(chain.toString());
            due(n + " lanes behind one another", x.wins(), n % 2);
        }
        in(NINE_BESIDE);
        due("nine lanes", x.wins(), 1);
        Check.tell(x, "land places 3;lane 0 1;lane 1 2;");
        due("two, in a land behind the one of nine", x.wins(), 0);
        Check.tell(x, "land places 2;lane 0 1;");
        due("one, in a land behind these", x.wins(), 1);
        in("land places 7;lane 1 2;");
        due("it can't go on", x.wins(), 0);
        says(34, "The first LANE by which it does. NONE: it doesn't.");
        due("it doesn't", x.best(), -1);
        x = new RutWays();
        due("no lanes", x.best(), -1);
        in("land places 5;lane 0 1;lane 1 2;lane 0 3;lane 0 4;cart at 0 pull 0;");
        due("not the first lane, the first that wins", x.best(), 2);
        x.dig(2);
        due("the next one", x.best(), 3);
        x.dig(1);
        due("the first then", x.best(), 0);
        in("land places 7;lane 0 1;lane 1 2;lane 0 3;lane 3 4;" + times("lane 0 6 depth 1;", 4) + "lane 0 5;");
        due("the last one: the others lead into two lanes, or aren't open", x.best(), 8);
    }

    private static void through() {
        says(TERMS, "THROUGH: it GOES by OPEN LANES (ruts not wearing); in each it sticks for good as likely as its risk tells, in 10,"
            + " by itself; it GOES so that it is likeliest that it comes to a PLACE by n LANES at most (0 to 7).");
        for (int risk = 0; risk <= 10; risk++) {
            in("land places 2;lane 0 1 risk " + risk + ";");
            int[] above = {1, 9, 4, 7, 3, 1, 2, 3, 1, 1, 0};
            int[] below = {1, 10, 5, 10, 5, 2, 5, 10, 5, 10, 1};
            for (int n = 1; n <= 7; n++) {
                due("risk " + risk + ", above", x.chance(1, n, 0), above[risk]);
                due("risk " + risk + ", below", x.chance(1, n, 1), below[risk]);
            }
            due("by none", x.chance(1, 0, 0), 0);
        }
        in("land places 3;lane 0 1 depth 1;lane 0 2 risk 1 soft 9;lane 2 1 risk 9 soft 9;wears:6;may:depth<1;");
        due("open ones alone, each by itself", x.chance(1, 7, 0), 9);
        due("open ones alone, each by itself", x.chance(1, 7, 1), 100);
        due("nothing is done by asking", x.count(7), 1);
        in("land places 3;lane 1 0 risk 5;lane 2 1 risk 5;cart at 2 pull 0;");
        due("from the last place to the first", x.chance(0, 2, 0), 1);
        due("from the last place to the first", x.chance(0, 2, 1), 4);
        due("by one it can't", x.chance(0, 1, 0), 0);
        in("land places 4;lane 0 2;lane 0 3;lane 1 2 depth 1;cart at 2 pull 0;");
        due("through place 0", x.chance(3, 2, 0), 1);
        due("by a lane that isn't open", x.chance(1, 7, 0), 0);
        due("by a lane that isn't open", x.chance(1, 7, 1), 1);
        in("land places 3;lane 1 2;");
        due("no lane leads on", x.chance(1, 7, 0), 0);
        due("no lane leads on", x.chance(1, 7, 1), 1);
        says(35, "THROUGH to a PLACE, what 0: the number above, 1: below, in lowest terms. -2: the PLACE, what; -3: n.");
        in(chain(" risk 9"));
        due("the least that can be", x.chance(6, 6, 0), 1);
        due("the least that can be", x.chance(6, 6, 1), 1000000);
        due("by seven, too", x.chance(6, 7, 1), 1000000);
        due("by five it can't", x.chance(6, 5, 0), 0);
        due("by five it can't", x.chance(6, 5, 1), 1);
        due("where it is", x.chance(0, 0, 0), 1);
        due("where it is", x.chance(0, 7, 1), 1);
        in(chain(" risk 5").replace("5 6 risk 5", "5 6 risk 8"));
        due("lowest terms", x.chance(6, 7, 0), 1);
        due("lowest terms", x.chance(6, 7, 1), 160);
        for (int n : new int[] {-1, 8, 9, MIN, MAX}) {
            due("n " + n, x.chance(6, n, 0), -3);
            due("n " + n + ", where it is", x.chance(0, n, 1), -3);
        }
        for (int k : new int[] {-1, 7, MIN, MAX}) {
            due("no place " + k, x.chance(k, 0, 0), -2);
            due("no place " + k + " goes first", x.chance(k, 8, 0), -2);
        }
        for (int what : new int[] {-1, 2, MIN, MAX}) {
            due("what " + what, x.chance(6, 7, what), -2);
            due("what " + what + " goes first", x.chance(6, 8, what), -2);
        }
    }

    private static void bestBy() {
        says(36, "The first LANE by which it is likeliest. NONE: it is there, it is never so; -2; -3.");
        in("land places 3;lane 0 1 risk 6;lane 0 1 risk 4;lane 0 1 risk 4;lane 0 2;lane 2 1 risk 3;lane 0 2 risk 10;");
        due("by one lane, the first of two", x.bestBy(1, 1), 1);
        due("by two", x.bestBy(1, 2), 3);
        due("by seven", x.bestBy(1, 7), 3);
        due("by none", x.bestBy(1, 0), -1);
        due("it is there", x.bestBy(0, 0), -1);
        due("it is there", x.bestBy(0, 7), -1);
        for (int n : new int[] {-1, 8, MIN, MAX}) {
            due("n " + n, x.bestBy(1, n), -3);
            due("n " + n + ", ahead of NONE", x.bestBy(0, n), -3);
        }
        for (int k : new int[] {-1, 3, 7, MIN, MAX}) {
            due("no place " + k, x.bestBy(k, 1), -2);
            due("no place " + k + " goes first", x.bestBy(k, 8), -2);
        }
        in("land places 3;lane 0 1 risk 10;lane 1 2;");
        due("never so: it sticks", x.bestBy(2, 7), -1);
        due("never so: it sticks", x.bestBy(1, 7), -1);
        in("land places 2;lane 0 1 depth 1;");
        due("never so: not open", x.bestBy(1, 7), -1);
        in("land places 3;lane 0 2 depth 1;lane 2 1;lane 0 1;lane 0 2;");
        due("not by one that isn't open", x.bestBy(2, 1), 3);
        due("not by one that isn't open", x.bestBy(2, 7), 2);
        in("land places 2;" + times("lane 0 1 risk 9;", 8) + "lane 0 1 risk 8;");
        due("the ninth lane", x.bestBy(1, 1), 8);
        due("the ninth lane", x.chance(1, 1, 1), 5);
        in("land places 4;lane 1 0;lane 3 0 risk 9;lane 3 1 risk 2;cart at 3 pull 0;");
        due("to place 0, by one", x.bestBy(0, 1), 1);
        due("to place 0, by two", x.bestBy(0, 2), 2);
        in("land places 4;lane 0 2;lane 0 3;cart at 2 pull 0;");
        due("through place 0", x.bestBy(3, 2), 0);
        in(chain(" risk 9"));
        due("the least that can be", x.bestBy(6, 7), 0);
        in(CHAIN);
        due("too few lanes", x.bestBy(6, 5), -1);
        due("just enough", x.bestBy(6, 6), 0);
    }
}
