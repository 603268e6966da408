/** Edges of trays, images, counts, and of an object's last call; promises 37 to 42. */
final class EdgesOfKeeping extends Edges {
    private static final String SMALL = "land places 3;lane 0 1 depth 1 soft 9;lane 1 2 depth 4;cart at 0 pull 2;person turns 0;rain 4;";

    private EdgesOfKeeping() {
    }

    static void run() {
        trays();
        numbers();
        writing();
        listing();
        images();
        counting();
        lastCall();
    }

    private static void trays() {
        says(TERMS, "TRAYS 0 to 3 are MISSING at first, or have 0 to 40 numbers of 8 bits (sort 0), 16 (1), 32 (2), 64 (3).");
        x = new RutWays();
        for (int tray = 0; tray <= 3; tray++) {
            due("missing at first", x.write(tray, 0, 1), -6);
            due("missing at first", x.judge(tray, 0), -6);
            due("missing at first", x.perform(tray), -6);
            due("missing at first", x.rains(tray), -6);
            due("missing at first", x.attempt(tray), -6);
            due("missing at first", x.lists(tray, 0), -6);
        }
        for (int sort = 0; sort <= 3; sort++) {
            x = new RutWays();
            long half = 1L << (8 << sort) - 1;
            due("numbers", x.numbers(0, sort, 40), 0);
            due("0", x.write(0, 0, 0), 0);
            due("the greatest", x.write(0, 0, half - 1), half - 1);
            due("the least", x.write(0, 0, -half), -half);
            due("one above the greatest", x.write(0, 39, half), -half);
            due("one below the least", x.write(0, 39, -half - 1), half - 1);
            due("all bits", x.write(0, 39, -1), -1);
            due("twice the half is nothing", x.write(0, 39, 2 * half), 0);
            due("one more", x.write(0, 39, 2 * half + 1), 1);
        }
    }

    private static void numbers() {
        says(37, "A TRAY has n numbers of a sort, all 0 (in place of another one): 0. -2: no such TRAY, sort;"
            + " -3, and the TRAY stays: n is below 0 or above 40.");
        in("land places 2;lane 0 1;");
        for (int tray = 0; tray <= 3; tray++) {
            for (int sort = 0; sort <= 3; sort++) {
                due("numbers", x.numbers(tray, sort, 40), 0);
                due("the last one", x.write(tray, 39, 50), 50);
                due("no more", x.write(tray, 40, 50), -7);
                due("all 0 but the last: it goes 39 times", x.judge(tray, 2), 1);
                due("numbers anew", x.numbers(tray, sort, 40), 0);
                due("all 0: it goes 40 times", x.judge(tray, 2), 0);
            }
        }
        due("none", x.numbers(0, 0, 0), 0);
        due("it has none", x.write(0, 0, 1), -7);
        due("but isn't missing", x.perform(0), 0);
        due("one", x.numbers(0, 0, 1), 0);
        due("it has one", x.write(0, 0, 5), 5);
        due("and no more", x.write(0, 1, 5), -7);
        for (int tray : new int[] {-1, 4, MIN, MAX}) {
            due("tray " + tray, x.numbers(tray, 0, 1), -2);
            due("tray " + tray + " goes first", x.numbers(tray, 0, 41), -2);
        }
        for (int sort : new int[] {-1, 4, MIN, MAX}) {
            due("sort " + sort, x.numbers(0, sort, 1), -2);
            due("sort " + sort + " goes first", x.numbers(0, sort, -1), -2);
        }
        put(1, 50, 50, 51);
        for (int n : new int[] {-1, 41, 42, MIN, MAX}) {
            due("n " + n, x.numbers(1, 0, n), -3);
            due("the tray stays", x.judge(1, 0), 2);
            due("its sort stays", x.write(1, 2, 1L << 40), 1L << 40);
            due("its size stays", x.write(1, 3, 1), -7);
        }
        x = new RutWays();
        due("n 41", x.numbers(2, 0, 41), -3);
        due("it stays missing", x.write(2, 0, 1), -6);
        due("sort 4", x.numbers(2, 4, 1), -2);
        due("it stays missing", x.write(2, 0, 1), -6);
        due("tray 2", x.numbers(2, 0, 1), 0);
        due("the others stay missing", x.write(1, 0, 1), -6);
        due("the others stay missing", x.write(3, 0, 1), -6);
    }

    private static void writing() {
        says(38, "Number i of a TRAY is v, cut to its sort: as it is there. -2: no such TRAY; -6; -7.");
        x = new RutWays();
        for (int tray : new int[] {-1, 4, MIN, MAX}) {
            due("tray " + tray, x.write(tray, 0, 1), -2);
            due("tray " + tray + " goes first", x.write(tray, -1, 1), -2);
        }
        due("missing", x.write(3, 0, 1), -6);
        due("missing goes first", x.write(3, -1, 1), -6);
        x.numbers(3, 0, 2);
        for (int i : new int[] {-1, 2, 3, 40, MIN, MAX}) {
            due("number " + i, x.write(3, i, 1), -7);
        }
        due("200 in 8 bits", x.write(3, 0, 200), -56);
        due("-200 in 8 bits", x.write(3, 0, -200), 56);
        due("the greatest long in 8 bits", x.write(3, 0, Long.MAX_VALUE), -1);
        due("the least long in 8 bits", x.write(3, 0, Long.MIN_VALUE), 0);
        x.numbers(3, 1, 2);
        due("40000 in 16 bits", x.write(3, 1, 40000), 40000 - 65536);
        x.numbers(3, 2, 2);
        due("3000000000 in 32 bits", x.write(3, 1, 3000000000L), 3000000000L - (1L << 32));
        x.numbers(3, 3, 2);
        due("the greatest long in 64 bits", x.write(3, 1, Long.MAX_VALUE), Long.MAX_VALUE);
        due("the least long in 64 bits", x.write(3, 1, Long.MIN_VALUE), Long.MIN_VALUE);
        x.numbers(0, 0, 2);
        x.write(0, 0, 256 + 30);
        x.write(0, 1, 512 + 50);
        due("deeds as they are there", x.perform(0), 2);
        x.write(0, 0, 256 - 1);
        due("deeds as they are there", x.judge(0, 0), 0);
    }

    private static void listing() {
        says(39, "LANES of CHEAPEST to a PLACE come into a TRAY, as far as it has places: how many. -2: the TRAY, the PLACE; -6;"
            + " -5: there is none.");
        in("land places 7;lane 5 6;lane 4 5;lane 3 4;lane 2 3;lane 1 2;lane 0 1;");
        for (int tray : new int[] {-1, 4, MIN, MAX}) {
            due("tray " + tray, x.lists(tray, 6), -2);
        }
        for (int k : new int[] {-1, 7, MIN, MAX}) {
            due("place " + k, x.lists(0, k), -2);
        }
        due("missing", x.lists(0, 6), -6);
        for (int n = 0; n <= 8; n++) {
            long[] before = new long[n];
            java.util.Arrays.fill(before, 50);
            put(0, before);
            due("as far as it has places: " + n, x.lists(0, 6), Math.min(n, 6));
            due("they can be gone, behind them seasons as before", x.judge(0, 0), -1);
            due("how far", x.judge(0, 2), Math.min(n, 6));
        }
        put(0, 33, 33);
        due("where it is", x.lists(0, 0), 0);
        due("the tray stays", x.judge(0, 0), -1);
        x.numbers(1, 0, 40);
        due("in 8 bits", x.lists(1, 6), 6);
        due("how far, behind that lane 0 to and fro", x.judge(1, 2), 34 % 2 == 0 ? 6 : 5);
        in("land places 3;lane 0 1 depth 3;lane 1 2;may:lane=0 and depth<2;");
        put(0, 9);
        due("there is none", x.lists(0, 2), -5);
        due("the tray stays", x.judge(0, 1), 1);
        due("one that must be filled", x.lists(0, 1), 1);
        due("lane 0, which isn't open", x.judge(0, 1), 3);
        due("missing goes ahead", x.lists(1, 2), -6);
        due("no place goes ahead", x.lists(1, 3), -2);
        x.numbers(2, 0, 0);
        due("there is none, in no places", x.lists(2, 2), -5);
    }

    private static void images() {
        says(TERMS, "IMAGES 0 to 1: THE LAND and what a call could bring back by UNDOING; nothing can be UNDONE behind (none at first).");
        in(SMALL);
        due("none at first", x.restore(0), -5);
        due("none at first", x.restore(1), -5);
        x.go(0);
        x.turn(0);
        x.rain(8);
        x.dig(1);
        int[] then = {3, 2, 1, 1, 2, 8, 1, 7, 1, 0, 0, 6};
        due("image(0)", x.image(0), 0);
        due("what can be undone stays by image()", x.count(9), 4);
        x.go(0);
        x.turn(0);
        x.rain(1);
        x.fill(1);
        due("image(1)", x.image(1), 0);
        Check.tell(x, "land places 1;");
        due("restore(0)", x.restore(0), 0);
        for (int what = 0; what < then.length; what++) {
            due("count(" + what + ")", x.count(what), then[what]);
        }
        due("nothing can be undone", x.undo(1), -3);
        due("restore(1)", x.restore(1), 0);
        due("how often it went", x.count(8), 2);
        due("rain", x.count(5), 1);
        due("restore(0) once more", x.restore(0), 0);
        due("rain", x.count(5), 8);
        x.rain(2);
        due("what is done behind can be undone", x.undo(1), 0);
        due("rain", x.count(5), 8);
        x.rain(2);
        x.rain(3);
        due("restore(0) behind calls", x.restore(0), 0);
        due("nothing can be undone behind", x.count(9), 0);
        due("nothing can be undone behind", x.undo(1), -3);
        due("rain", x.count(5), 8);
        imagesOfOtherLands();
        in(SMALL);
        x.image(0);
        x.rain(1);
        x.image(1);
        says(40, "An IMAGE is made: 0. -2.");
        for (int i : new int[] {-1, 2, 31, 32, MIN, MAX}) {
            due("image(" + i + ")", x.image(i), -2);
        }
        x.rain(3);
        due("in place of the one ahead", x.image(0), 0);
        x.rain(4);
        x.restore(0);
        due("rain", x.count(5), 3);
        x.restore(1);
        due("the other one stays", x.count(5), 1);
        says(41, "All that is in an IMAGE is as it was: 0. -2; -5: none was made.");
        for (int i : new int[] {-1, 2, 31, 32, MIN, MAX}) {
            due("restore(" + i + ")", x.restore(i), -2);
        }
        x = new RutWays();
        due("none was made", x.restore(1), -5);
        due("image(1) without a land", x.image(1), 0);
        due("the other one wasn't made", x.restore(0), -5);
        x.rain(5);
        due("a land", Check.tell(x, SMALL), 6);
        x.numbers(0, 0, 1);
        Check.feedText(x, "@");
        due("restore(1)", x.restore(1), 0);
        int[] none = {1, 0, 0, 0, 0, 0, 0, 0, 0, 0, 20, 0};
        for (int what = 0; what < none.length; what++) {
            due("count(" + what + ")", x.count(what), none[what]);
        }
        due("no lane", x.lane(0, 0), -2);
        due("trays aren't in an image", x.write(0, 0, 7), 7);
    }

    /** Both images and the land that is now are of three texts; more texts, with a fault or without, change none of them. */
    private static void imagesOfOtherLands() {
        x = new RutWays();
        Check.tell(x, "land places 2;lane 0 1 soft 1 depth 2;person turns 1;wears:1;may:depth=2;");
        x.image(0);
        Check.tell(x, "land places 3;lane 1 2 soft 2 depth 3;person turns 2;wears:2;may:depth=3;");
        x.image(1);
        Check.tell(x, "land places 4;lane 2 3 soft 3 depth 4;person turns 3;wears:3;may:depth=4;");
        for (int round = 0; round < 3; round++) {
            due("a text with a fault", Check.tell(x, "land places 7;lane 5 6 soft 9 depth 1;person turns 8;wears:6;may:1=2;rain 10;"), -33);
            ofText(4);
            due("restore(1)", x.restore(1), 0);
            ofText(3);
            due("restore(0)", x.restore(0), 0);
            ofText(2);
            Check.tell(x, "land places 4;lane 2 3 soft 3 depth 4;person turns 3;wears:3;may:depth=4;");
        }
    }

    /** How all is by the text of so many places. */
    private static void ofText(int places) {
        due("places", x.count(0), places);
        due("an end", x.lane(0, 0), places - 2);
        due("soft", x.lane(0, 3), places - 1);
        due("depth", x.lane(0, 2), places);
        due("open", x.lane(0, 5), 1);
        due("worn", x.worn(0), places - 1);
        due("so many others aren't there", x.when(0), -1);
    }

    private static void counting() {
        says(42, "0 PLACES, 1 LANES, 2 PEOPLE, 3 the PLACE of the cart, 4 PULL, 5 RAIN, 6 who has TURNED BACK, as bits,"
            + " 7 all DEPTHS together, 8 how often it WENT, 9 calls that can be UNDONE, 10 bytes on THE TAPE, 11 LINES.");
        in("land places 7;" + times("lane 6 0 depth 6;", 9) + "cart at 6 pull 9;" + times("person turns 8 back;", 8) + "rain 9;");
        for (int i = 0; i < 12; i++) {
            x.go(i % 9);
        }
        for (int i = 0; i < 45; i++) {
            x.feed(0, 0, 0, 0, 0);
        }
        int[] most = {7, 9, 8, 6, 9, 9, 255, 54, 12, 10, 900, 20};
        for (int what = 0; what < most.length; what++) {
            due("count(" + what + ")", x.count(what), most[what]);
        }
        says(42, "NONE for others.");
        for (int what : new int[] {-1, 12, 13, 31, 32, MIN, MAX}) {
            due("count(" + what + ")", x.count(what), -1);
        }
    }

    private static void lastCall() {
        says(TERMS, "An object is used for at most 512 calls after it has been made; what later calls answer is free.");
        in("land places 2;lane 0 1;");
        int calls = 3;
        while (calls < 510) {
            x.go(0);
            calls++;
        }
        due("call 511", x.count(8), 507);
        due("call 512", x.undo(10), 0);
        x = new RutWays();
        for (int i = 0; i < 510; i++) {
            x.feed(i, 0, 0, 0, 0);
        }
        due("call 511", x.land(1), -31);
        due("call 512", x.fault(1), 0);
    }
}
