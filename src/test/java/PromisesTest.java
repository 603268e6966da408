/** Each promise by its number: ordinary inputs, the edges that the document names, wrong inputs. */
public final class PromisesTest {
    private static RutWays x;
    private static String promise = "";

    private static void due(String call, long got, long want) {
        Check.due("promise " + promise + ": " + call, got, want);
    }

    /** A new object in a land. */
    private static void in(String text) {
        x = new RutWays();
        due("land: " + text, Check.tell(x, text) > 0 ? 1 : 0, 1);
    }

    /** A tray of 64 bits gets these numbers. */
    private static void put(int tray, long... numbers) {
        x.numbers(tray, 3, numbers.length);
        for (int i = 0; i < numbers.length; i++) {
            x.write(tray, i, numbers[i]);
        }
    }

    private static final int[] ODD = {-1, Integer.MIN_VALUE, Integer.MAX_VALUE, 1000};

    public static void main(String[] args) {
        promise1();
        promise2();
        promise3();
        promise4();
        promise5();
        promise6();
        promise7();
        promise8();
        promise9();
        promises10and11();
        promise12();
        promise13();
        promise14();
        promise15();
        promise16();
        promise17();
        promise18();
        promises19and20();
        promise21();
        promise22();
        promise23();
        promises24and25();
        promise26();
        promise27();
        promises28and29();
        promise30();
        promise31();
        promise32();
        promises33and34();
        promises35and36();
        promise37();
        promise38();
        promise39();
        promises40and41();
        promise42();
        Check.end();
    }

    private static void promise1() {
        promise = "1";
        x = new RutWays();
        int[] counts = {1, 0, 0, 0, 0, 0, 0, 0, 0, 0, 0, 0};
        for (int i = 0; i < counts.length; i++) {
            due("count(" + i + ")", x.count(i), counts[i]);
        }
        due("reach()", x.reach(), 1);
        due("fault(0)", x.fault(0), 0);
        due("fault(1)", x.fault(1), -1);
        due("NONE", RutWays.NONE, -1);
    }

    private static void promise2() {
        promise = "2";
        x = new RutWays();
        for (int i = 1; i <= 45; i++) {
            due("feed", x.feed(0, 0, 0, 0, 0), 20 * i);
        }
        due("feed beyond 900", x.feed(0, 0, 0, 0, 0), -5);
        due("count(10)", x.count(10), 900);
        x = new RutWays();
        // "land places 3;      " by hand: the highest byte of each int first.
        x.feed(0x6c616e64, 0x20706c61, 0x63657320, 0x333b2020, 0x20202020);
        due("land(14)", x.land(14), 1);
        due("count(0)", x.count(0), 3);
        due("feed behind land", x.feed(-1, 0, 0, 0, 0), 20);
        due("land of byte 255", x.land(1), -31);
    }

    private static void promise3() {
        promise = "3";
        in("land places 2;lane 0 1;cart at 1 pull 4;rain 3;person turns 1;");
        due("count(11)", x.count(11), 5);
        x.go(0);
        due("count(8)", x.count(8), 1);
        due("count(9)", x.count(9), 1);
        x.feed(0, 0, 0, 0, 0);
        due("land(21)", x.land(21), -3);
        due("land(-1)", x.land(-1), -3);
        due("the tape stays", x.count(10), 20);
        due("land(20)", x.land(20), -31);
        due("the tape is empty", x.count(10), 0);
        due("it stays there", x.count(3), 0);
        due("all stays with a fault", x.count(9), 1);
        due("lines stay", x.count(11), 5);
        Check.feedText(x, "land places 4;rain 7;lane 0 3;");
        due("land(21), less than there is", x.land(21), 2);
        due("the tape is empty", x.count(10), 0);
        due("places", x.count(0), 4);
        due("lanes", x.count(1), 0);
        due("people", x.count(2), 0);
        due("pull", x.count(4), 0);
        due("rain", x.count(5), 7);
        due("it never went", x.count(8), 0);
        due("nothing can be undone", x.count(9), 0);
        due("undo(1)", x.undo(1), -3);
        due("land(0)", x.land(0), -32);
        due("fault(1)", x.fault(1), 0);
        in("land places 3;lane 0 1 depth 6 depth 2 soft 3 risk 10 soft 9 risk 4;cart at 1 pull 2;rain 9;rain 1;"
            + "cart at 2 pull 0;wears:1;wears:4;may:1=2;may:depth=2;");
        due("later depth", x.lane(0, 2), 2);
        due("later soft", x.lane(0, 3), 9);
        due("later risk", x.lane(0, 4), 4);
        due("later cart", x.count(3), 2);
        due("later pull", x.count(4), 0);
        due("later rain", x.count(5), 1);
        due("later wears", x.worn(0), 4);
        due("later may", x.lane(0, 5), 1);
        in("land places 1;person turns 8 back back;person turns 007;");
        due("back", x.count(6), 1);
        x = new RutWays();
        for (int i = 0; i < 6; i++) {
            Check.tell(x, "land places 3;lane 0 1 depth 5 soft 6 risk 7;cart at 1 pull 8;person turns 1 back;rain 9;wears:3;may:1=2;");
        }
        for (int i = 0; i < 6; i++) {
            due("nothing is left of lands ahead", Check.tell(x, "land places 2;lane 1 0;person turns 2;"), 3);
            int[] lane = {1, 0, 0, 0, 0, 1};
            int[] counts = {2, 1, 1, 0, 0, 0, 0, 0, 0, 0, 0, 3};
            for (int k = 0; k < lane.length; k++) {
                due("lane(0, " + k + ")", x.lane(0, k), lane[k]);
            }
            for (int k = 0; k < counts.length; k++) {
                due("count(" + k + ")", x.count(k), counts[k]);
            }
            due("no law", x.worn(0), 0);
        }
        in("land\n\nplaces2;lane0 1depth3;");
        due("blanks where they are needed", x.lane(0, 2), 3);
    }

    private static void promise4() {
        promise = "4";
        in("land places 2;");
        due("fault(0)", x.fault(0), 0);
        due("fault(1)", x.fault(1), -1);
        due("land(1) of nothing isn't read", x.land(1), -3);
        due("fault(0)", x.fault(0), 0);
        Check.tell(x, "land places 9;");
        due("fault(0)", x.fault(0), 3);
        due("fault(1)", x.fault(1), 12);
        x.land(5);
        due("fault(0) stays", x.fault(0), 3);
        for (int what : ODD) {
            due("fault", x.fault(what), -1);
        }
        due("fault(2)", x.fault(2), -1);
        Check.tell(x, "land places 1;");
        due("fault(0)", x.fault(0), 0);
        due("fault(1)", x.fault(1), -1);
    }

    private static void promise5() {
        promise = "5";
        in("land places 3;lane 2 1 depth 4 soft 3 risk 10;lane 0 2;cart at 0 pull 3;");
        int[] first = {2, 1, 4, 3, 10, 0};
        int[] second = {0, 2, 0, 0, 0, 1};
        for (int i = 0; i < 6; i++) {
            due("lane(0, " + i + ")", x.lane(0, i), first[i]);
            due("lane(1, " + i + ")", x.lane(1, i), second[i]);
        }
        x.fill(0);
        due("it is open then", x.lane(0, 5), 1);
        due("lane(2, 0)", x.lane(2, 0), -2);
        due("lane(0, 6)", x.lane(0, 6), -2);
        due("lane(0, -1)", x.lane(0, -1), -2);
        for (int l : ODD) {
            due("lane(" + l + ", 0)", x.lane(l, 0), -2);
        }
    }

    private static void promise6() {
        promise = "6";
        in("land places 3;lane 0 1;lane 1 2 depth 6;lane 2 0 depth 1;cart at 0 pull 0;");
        due("why(0)", x.why(0), 0);
        due("why(1), not there and against the law", x.why(1), 2);
        due("why(2)", x.why(2), 3);
        due("why(3)", x.why(3), 1);
        for (int l : ODD) {
            due("why(" + l + ")", x.why(l), 1);
        }
        in("land places 2;lane 0 1;lane 0 1;person turns 0;may:back>0 and lane=1;");
        due("why(1)", x.why(1), 3);
        x.turn(0);
        due("why(1)", x.why(1), 0);
        due("why(0)", x.why(0), 3);
    }

    private static void promise7() {
        promise = "7";
        in("land places 2;lane 0 1 depth 2 soft 3;lane 0 1 depth 6 soft 9;lane 0 1 soft 9 depth 5;rain 2;");
        due("3 and 2 aren't above 5", x.worn(0), 2);
        due("6 at most", x.worn(1), 6);
        due("may or may not", x.worn(2), 6);
        x.rain(3);
        due("3 and 3 are", x.worn(0), 3);
        due("worn(3)", x.worn(3), -2);
        due("worn(-1)", x.worn(-1), -2);
        due("it isn't so yet", x.lane(0, 2), 2);
        in("land places 2;lane 0 1 depth 4 soft 7;lane 1 0 depth 1;cart at 0 pull 9;rain 5;"
            + "wears:lane * 100 + depth * 10 + soft - pull * rain;");
        due("40 + 7 - 45", x.worn(0), 2);
        due("100 + 10 - 45: 6 at most", x.worn(1), 6);
        x.rain(6);
        due("below 0: 0", x.worn(0), 0);
        laws();
    }

    /** The laws' language: how strong, kept from where to where. */
    private static void laws() {
        law("1 - 2 - 3 + 9", 5);
        law("2 + 3 * 4 - 10", 4);
        law("(2 + 3) * 4 - 17", 3);
        law("999 * 999 * 999 - 999 * 999 - 999 * 2 + 4", 5);
        law("999 * 999 + 999 * 999 - 999 * 999 - 999 - 999", 1);
        law("999*999 + 999*999 - 999*999 - 999 - 999 - 1", 0);
        law("(0 - 999 * 999 - 999 * 999) * 2 + 999 * 999 + 999 + 999 + 5", 4);
        law("if 1 < 2 then 3 else 4 end", 3);
        law("if 2 < 1 then 3 else 4 end", 4);
        law("if 2 > 1 then 3 else 4 end + 1", 4);
        law("if 2 = 1 then 3 else 4 end", 4);
        law("if not 1 = 1 or 1 = 1 then 3 else 4 end", 3);
        law("if 1 = 1 or 1 = 1 and 1 = 2 then 3 else 4 end", 3);
        law("if [1 = 1 or 1 = 1] and 1 = 2 then 3 else 4 end", 4);
        law("if not [1 = 1 and 1 = 2] then 3 else 4 end", 3);
        law("if not not 1 = 2 then 3 else 4 end", 4);
        law("if if 1 = 1 then 5 else 6 end = 5 then 1 else 2 end", 1);
        law("2 * if 1 = 2 then 5 else if 1 = 1 then 3 else 1 end end", 6);
        law("if not not not not not not 1 = 1 then 5 else 0 end", -1);
        law("if not not not not not 1 = 1 then 5 else 2 end", 2);
        law("((((((3))))))", 3);
        law("((3)) + (((((2)))))", 5);
        law("(((((((3)))))))", -1);
        law("(((((if 1 = 1 then (4) else 1 end)))))", -1);
        law("((((if 1 = 1 then (4) else 1 end))))", 4);
        law("005", 5);
    }

    private static void law(String sum, int depth) {
        RutWays y = new RutWays();
        Check.tell(y, "land places 2;lane 0 1;wears:" + sum + ";");
        due("wears:" + sum, depth < 0 ? y.fault(0) : y.worn(0), depth < 0 ? 4 : depth);
    }

    private static void promise8() {
        promise = "8";
        in("land places 2;lane 0 1 depth 6;lane 0 1 depth 2;cart at 0 pull 2;");
        due("fillings(0)", x.fillings(0), 4);
        due("fillings(1)", x.fillings(1), 0);
        due("fillings(2)", x.fillings(2), -2);
        due("fillings(-1)", x.fillings(-1), -2);
        in("land places 2;lane 0 1 depth 6;lane 0 1 depth 2;lane 0 1 depth 4;may:depth > 2 and depth < 5;");
        due("the nearest below", x.fillings(0), 2);
        due("never", x.fillings(1), -1);
        due("now", x.fillings(2), 0);
        in("land places 2;lane 0 1 depth 6;may:depth = 0;");
        due("all of it", x.fillings(0), 6);
        in("land places 2;lane 0 1;may:depth > 0;");
        due("never", x.fillings(0), -1);
    }

    private static void promise9() {
        promise = "9";
        in("land places 3;lane 0 1 soft 9;lane 2 1 depth 3;lane 0 2 depth 1;cart at 0 pull 1;");
        due("go(3)", x.go(3), -11);
        due("go(10), which is no filling", x.go(10), -11);
        due("go(-1)", x.go(-1), -11);
        due("go(1)", x.go(1), -12);
        due("go(0)", x.go(0), 1);
        due("the rut is deeper", x.lane(0, 2), 1);
        due("go(1)", x.go(1), -13);
        due("back", x.go(0), 0);
        due("the rut is too deep", x.go(0), -13);
        due("by the other end", x.go(2), 2);
        due("it went", x.count(8), 3);
        due("calls to be undone", x.count(9), 3);
        in("land places 2;lane 0 1 depth 1;may:depth=1;wears:depth+2;");
        due("may looks ahead of the wearing", x.go(0), 1);
        due("depth", x.lane(0, 2), 3);
        due("go(0)", x.go(0), -13);
    }

    private static void promises10and11() {
        promise = "10, 11";
        in("land places 2;lane 0 1 depth 1;lane 0 1 depth 5;");
        due("fill(0)", x.fill(0), 0);
        due("fill(0)", x.fill(0), -12);
        due("fill(2)", x.fill(2), -11);
        due("fill(-1)", x.fill(-1), -11);
        due("fill(10)", x.fill(10), -11);
        due("fill(-10)", x.fill(-10), -11);
        due("dig(1)", x.dig(1), 6);
        due("dig(1)", x.dig(1), -12);
        due("dig(2)", x.dig(2), -11);
        due("dig(-1)", x.dig(-1), -11);
        due("dig(0)", x.dig(0), 1);
        due("calls to be undone", x.count(9), 3);
        due("it never went", x.count(8), 0);
    }

    private static void promise12() {
        promise = "12";
        in("land places 1;person turns 8;person turns 0 back;");
        due("turn(0)", x.turn(0), 1);
        due("turn(1)", x.turn(1), 0);
        due("bits", x.count(6), 1);
        due("turn(0)", x.turn(0), 0);
        due("turn(2)", x.turn(2), -11);
        due("turn(-1)", x.turn(-1), -11);
        due("turn(10)", x.turn(10), -11);
        due("calls to be undone", x.count(9), 3);
    }

    private static void promise13() {
        promise = "13";
        in("land places 1;person turns 0;person turns 1;person turns 2;person turns 4;person turns 3;person turns 6;");
        due("all at once", x.seasons(1), 1);
        due("seasons(1)", x.seasons(1), 2);
        due("seasons(2)", x.seasons(2), 4);
        due("bits", x.count(6), 1 + 2 + 4 + 16);
        due("seasons(99)", x.seasons(99), 5);
        due("seasons(0)", x.seasons(0), -3);
        due("seasons(100)", x.seasons(100), -3);
        due("calls to be undone", x.count(9), 4);
        due("each as a whole", x.undo(2), 2);
        due("bits", x.count(6), 3);
        in("land places 1;person turns 1;person turns 0;");
        x.turn(0);
        x.turn(0);
        due("those who don't any more do again", x.seasons(2), 2);
    }

    private static void promise14() {
        promise = "14";
        in("land places 1;rain 4;");
        due("rain(9)", x.rain(9), 4);
        due("rain(0)", x.rain(0), 9);
        due("rain(0) once more", x.rain(0), 0);
        due("rain(10)", x.rain(10), -11);
        due("rain(-1)", x.rain(-1), -11);
        due("calls to be undone", x.count(9), 3);
    }

    private static void promise15() {
        promise = "15";
        in("land places 2;lane 0 1 depth 1 soft 9;cart at 0 pull 6;person turns 0;");
        due("undo(1)", x.undo(1), -3);
        x.go(0);
        x.rain(7);
        x.turn(0);
        x.go(5);
        due("refused calls aren't kept", x.count(9), 3);
        due("undo(4)", x.undo(4), -3);
        due("undo(0)", x.undo(0), -3);
        due("undo(-1)", x.undo(-1), -3);
        due("undo(1)", x.undo(1), 2);
        due("back", x.count(6), 0);
        due("undo(2)", x.undo(2), 0);
        due("cart", x.count(3), 0);
        due("rain", x.count(5), 0);
        due("depth", x.lane(0, 2), 1);
        due("went", x.count(8), 0);
        for (int i = 1; i <= 13; i++) {
            x.rain(i % 10);
        }
        due("10 at most", x.count(9), 10);
        due("undo(11)", x.undo(11), -3);
        due("undo(10)", x.undo(10), 0);
        due("the eldest are forgotten", x.count(5), 3);
        x.rain(5);
        due("undo(1)", x.undo(1), 0);
        due("rain", x.count(5), 3);
    }

    private static void promise16() {
        promise = "16";
        in("land places 3;lane 0 1 depth 1 soft 9;lane 1 2 depth 2;cart at 0 pull 1;person turns 1;person turns 1;");
        due("judge(0, 0)", x.judge(0, 0), -6);
        due("judge(4, 0)", x.judge(4, 0), -2);
        due("judge(-1, 0)", x.judge(-1, 0), -2);
        due("judge(0, 4)", x.judge(0, 4), -2);
        due("judge(0, -1)", x.judge(0, -1), -2);
        x.numbers(0, 0, 0);
        judged(-1, 0, 0, 3);
        put(0, 0, 11, 1, 21, 1, 0);
        judged(4, 3, 2, 4);
        put(0, 0, 11, 1, 35, 40, 50, 49);
        judged(6, 1, 2, 3);
        put(0, 50, 40, 50, 1);
        judged(3, 2, 0, 3);
        put(0, 10, 10);
        judged(1, 2, 0, 2);
        put(0, 20, 20, 20, 20, 20, 20);
        judged(5, 2, 0, 8);
        put(0, 39, 30, 49);
        judged(2, 1, 0, 3);
        for (long v : new long[] {9, 12, 19, 22, 29, 42, 51, 60, -1, -10, 1L << 32, Long.MIN_VALUE, Long.MAX_VALUE}) {
            put(0, v);
            judged(0, 1, 0, 3);
        }
        due("as if done", x.count(7), 3);
        due("nothing to be undone", x.count(9), 0);
    }

    private static void judged(int place, int why, int cart, int depths) {
        due("judge(0, 0)", x.judge(0, 0), place);
        due("judge(0, 1)", x.judge(0, 1), why);
        due("judge(0, 2)", x.judge(0, 2), cart);
        due("judge(0, 3)", x.judge(0, 3), depths);
    }

    private static void promise17() {
        promise = "17";
        in("land places 3;lane 0 1 depth 1 soft 9;lane 1 2 depth 2;cart at 0 pull 1;person turns 1;person turns 1;");
        due("perform(0)", x.perform(0), -6);
        due("perform(4)", x.perform(4), -2);
        due("perform(-1)", x.perform(-1), -2);
        put(0, 0, 11, 1, 35, 40, 50, 49, 10);
        due("till one can't be", x.perform(0), 6);
        due("cart", x.count(3), 2);
        due("rain", x.count(5), 5);
        due("back", x.count(6), 3);
        due("depths", x.count(7), 3);
        due("went", x.count(8), 2);
        due("one call", x.count(9), 1);
        due("undone as a whole", x.undo(1), 0);
        due("cart", x.count(3), 0);
        due("went", x.count(8), 0);
        put(0, 39);
        due("just one", x.perform(0), 1);
        due("undone", x.undo(1), 0);
        due("rain", x.count(5), 0);
        put(0, 1);
        due("none", x.perform(0), 0);
        due("it did none", x.count(9), 0);
        x.numbers(0, 3, 0);
        due("none", x.perform(0), 0);
        due("it did none", x.count(9), 0);
    }

    private static void promise18() {
        promise = "18";
        String text = "land places 3;lane 0 1 soft 9;lane 1 2 depth 2;lane 2 0 soft 4;lane 0 1;cart at 0 pull 3;"
            + "person turns 1;person turns 0;person turns 2;";
        in(text);
        due("year(1, 0)", x.year(1, 0), -3);
        due("year(1, 41)", x.year(1, 41), -3);
        due("year(1, -1)", x.year(1, -1), -3);
        for (int seed : new int[] {0, 1, 7, -1, 123456789, Integer.MIN_VALUE, Integer.MAX_VALUE}) {
            for (int times : new int[] {1, 2, 13, 40}) {
                in(text);
                int done = yearBySingleCalls(seed, times);
                int[] then = new int[9];
                for (int i = 0; i < then.length; i++) {
                    then[i] = x.count(i);
                }
                in(text);
                due("year(" + seed + ", " + times + ")", x.year(seed, times), done);
                for (int i = 0; i < then.length; i++) {
                    due("count(" + i + ") then", x.count(i), then[i]);
                }
                due("one call, if it did some", x.count(9), done > 0 ? 1 : 0);
                due("undone as a whole", x.undo(1), done > 0 ? 0 : -3);
                int[] ahead = {3, 4, 3, 0, 3, 0, 0, 2, 0};
                for (int i = 0; i < ahead.length; i++) {
                    due("count(" + i + ") undone", x.count(i), ahead[i]);
                }
            }
        }
    }

    /** A year by the document's draws, each deed by its own call. */
    private static int yearBySingleCalls(int seed, int times) {
        int[] s = {seed};
        int done = 0;
        for (int i = 0; i < times; i++) {
            int kind = draw(s) % 8;
            int answer;
            if (kind < 3) {
                answer = x.go(draw(s) % 9);
            } else if (kind == 3) {
                answer = x.fill(draw(s) % 9);
            } else if (kind == 4) {
                answer = x.dig(draw(s) % 9);
            } else if (kind == 5) {
                answer = x.rain(draw(s) % 10);
            } else if (kind == 6) {
                answer = x.turn(draw(s) % 8);
            } else {
                answer = x.seasons(1);
            }
            done += answer >= 0 ? 1 : 0;
        }
        return done;
    }

    private static int draw(int[] s) {
        s[0] = (int) (1103515245L * s[0] + 12345L);
        return s[0] >>> 16;
    }

    private static void promises19and20() {
        promise = "19, 20";
        in("land places 7;lane 0 1;lane 1 2 depth 1;lane 2 3 depth 1;lane 3 0 depth 2;lane 5 4;cart at 0 pull 1;");
        due("reach()", x.reach(), 15);
        due("soonest(0)", x.soonest(0), 0);
        due("soonest(2)", x.soonest(2), 2);
        due("soonest(3)", x.soonest(3), 3);
        due("soonest(4)", x.soonest(4), -1);
        due("soonest(7)", x.soonest(7), -2);
        due("soonest(-1)", x.soonest(-1), -2);
        x.fill(3);
        due("soonest(3)", x.soonest(3), 1);
        x.dig(1);
        x.dig(3);
        due("reach()", x.reach(), 3);
        in("land places 7;lane 0 1;lane 1 2;lane 2 3;lane 3 4;lane 4 5;lane 5 6;cart at 6 pull 0;");
        due("reach()", x.reach(), 127);
        due("soonest(0)", x.soonest(0), 6);
    }

    private static void promise21() {
        promise = "21";
        StringBuilder many = new StringBuilder("land places 2;");
        for (int i = 0; i < 9; i++) {
            many.append("lane 0 1;");
        }
        in(many.toString());
        due("rows(0, 6)", x.rows(0, 6), 531441);
        due("rows(1, 5)", x.rows(1, 5), 59049);
        due("rows(1, 6)", x.rows(1, 6), 0);
        due("rows(0, 0)", x.rows(0, 0), 1);
        due("rows(1, 0)", x.rows(1, 0), 0);
        due("rows(0, 7)", x.rows(0, 7), -3);
        due("rows(0, -1)", x.rows(0, -1), -3);
        due("rows(2, 7)", x.rows(2, 7), -2);
        due("rows(-1, 0)", x.rows(-1, 0), -2);
        in("land places 2;lane 0 1 soft 9;lane 0 1 soft 9;cart at 0 pull 0;");
        due("each lane once", x.rows(0, 2), 2);
        due("rows(1, 1)", x.rows(1, 1), 2);
        due("rows(1, 3)", x.rows(1, 3), 0);
        x.fill(0);
        due("the ruts stay", x.count(7), 0);
        in("land places 2;lane 0 1;lane 1 0 depth 1;wears:1 - depth;may:depth < 1;");
        due("worn, and no more open", x.rows(1, 1), 1);
        due("rows(0, 2)", x.rows(0, 2), 0);
        in("land places 3;lane 0 1 soft 9;lane 1 2;lane 2 0;cart at 0 pull 1;");
        due("rows(0, 3), round both ways", x.rows(0, 3), 2);
        due("rows(0, 4)", x.rows(0, 4), 5);
    }

    private static void promise22() {
        promise = "22";
        in("land places 5;lane 3 4;lane 0 2;lane 0 1;lane 1 3;lane 2 3;lane 2 3;cart at 0 pull 0;");
        due("way(3, 0)", x.way(3, 0), 1);
        due("way(3, 1)", x.way(3, 1), 4);
        due("way(3, 2)", x.way(3, 2), -1);
        due("way(4, 2)", x.way(4, 2), 0);
        due("it is there now", x.way(0, 0), -1);
        due("way(5, 0)", x.way(5, 0), -2);
        due("way(5, -1)", x.way(5, -1), -2);
        due("way(-1, 0)", x.way(-1, 0), -2);
        due("way(4, -1)", x.way(4, -1), -3);
        due("way(0, -1)", x.way(0, -1), -3);
        due("way(4, max)", x.way(4, Integer.MAX_VALUE), -1);
        x.dig(0);
        due("there is none", x.way(4, 0), -1);
        x.dig(1);
        due("by the other side", x.way(2, 0), 2);
        due("by the other side", x.way(2, 2), 4);
        in("land places 7;lane 0 1;lane 1 2;lane 2 3;lane 3 4;lane 4 5;lane 5 6;");
        due("six lanes", x.way(6, 5), 5);
    }

    private static void promise23() {
        promise = "23";
        in("land places 3;lane 1 2 depth 1 soft 6;lane 0 1 depth 6;lane 0 1 soft 5;cart at 0 pull 4;");
        due("wherever the cart is", x.toAndFro(0), 4);
        due("not once", x.toAndFro(1), 0);
        due("100 at most", x.toAndFro(2), 100);
        due("toAndFro(3)", x.toAndFro(3), -2);
        due("toAndFro(-1)", x.toAndFro(-1), -2);
        due("the rut stays", x.lane(0, 2), 1);
        in("land places 2;lane 0 1 depth 6;wears:depth - 1;may:depth > 2;");
        due("toAndFro(0)", x.toAndFro(0), 4);
    }

    private static void promises24and25() {
        promise = "24, 25";
        in("land places 5;lane 0 1 depth 3;lane 0 2;lane 2 1 depth 1;lane 2 1 depth 1;lane 0 3 depth 2;lane 1 3;"
            + "lane 3 4 depth 6;cart at 0 pull 0;");
        due("fewer fillings go ahead of fewer lanes", x.cheapest(1, 0), 1);
        due("cheapest(1, 1)", x.cheapest(1, 1), 2);
        due("cheapBy(1, 0)", x.cheapBy(1, 0), 1);
        due("of like ones the first", x.cheapBy(1, 1), 2);
        due("not so many", x.cheapBy(1, 2), -1);
        due("three lanes, one filling", x.cheapest(3, 0), 1);
        due("cheapest(3, 1)", x.cheapest(3, 1), 3);
        due("cheapBy(3, 2)", x.cheapBy(3, 2), 5);
        due("cheapest(4, 0)", x.cheapest(4, 0), 7);
        due("where it is", x.cheapest(0, 0), 0);
        due("where it is", x.cheapest(0, 1), 0);
        due("where it is", x.cheapBy(0, 0), -1);
        x.dig(2);
        x.dig(3);
        due("like fillings: the fewest lanes", x.cheapest(3, 0), 2);
        due("like fillings: the fewest lanes", x.cheapest(3, 1), 1);
        due("cheapBy(3, 0)", x.cheapBy(3, 0), 4);
        due("cheapest(5, 0)", x.cheapest(5, 0), -2);
        due("cheapest(-1, 0)", x.cheapest(-1, 0), -2);
        due("cheapest(1, 2)", x.cheapest(1, 2), -2);
        due("cheapest(1, -1)", x.cheapest(1, -1), -2);
        due("cheapBy(5, -1)", x.cheapBy(5, -1), -2);
        due("cheapBy(1, -1)", x.cheapBy(1, -1), -3);
        due("cheapBy(1, max)", x.cheapBy(1, Integer.MAX_VALUE), -1);
        in("land places 2;lane 0 1 depth 2;");
        due("the first call of all", x.cheapBy(1, 0), 0);
        in("land places 3;lane 0 1;lane 1 2 depth 3;may:depth > 3 or lane < 1;");
        due("it can't be", x.cheapest(2, 0), -1);
        due("it can't be", x.cheapest(2, 1), -1);
        due("it can't be", x.cheapBy(2, 0), -1);
    }

    private static void promise26() {
        promise = "26";
        in("land places 4;lane 0 1 depth 2;lane 1 2 depth 1;lane 2 0 depth 1;lane 3 2 depth 5;lane 2 3 depth 5;cart at 0 pull 0;");
        due("joins(0)", x.joins(0), 7);
        due("joins(1)", x.joins(1), 2 + 4 + 8);
        due("joins(2)", x.joins(2), -2);
        due("joins(-1)", x.joins(-1), -2);
        in("land places 3;lane 0 1;lane 1 2;lane 0 2;cart at 0 pull 9;");
        due("of like ones the fewest, the least set", x.joins(1), 3);
        due("none to be filled", x.joins(0), 0);
        in("land places 3;lane 0 1;lane 1 2;may:lane=0;");
        due("it can't be", x.joins(0), -1);
        due("it can't be", x.joins(1), -1);
        due("what", x.joins(2), -2);
    }

    private static void promise27() {
        promise = "27";
        in("land places 4;lane 0 1;lane 0 1;lane 1 2;lane 0 2;lane 2 3;lane 0 3 depth 1;cart at 0 pull 0;");
        due("shuts(1, 0)", x.shuts(1, 0), 3);
        due("shuts(1, 1)", x.shuts(1, 1), 1 + 2 + 4);
        due("shuts(2, 0)", x.shuts(2, 0), 2);
        due("shuts(2, 1)", x.shuts(2, 1), 4 + 8);
        due("shuts(3, 1)", x.shuts(3, 1), 16);
        due("it is there", x.shuts(0, 0), -1);
        due("it is there", x.shuts(0, 1), -1);
        due("what is ahead of none", x.shuts(0, 2), -2);
        due("shuts(1, -1)", x.shuts(1, -1), -2);
        due("shuts(4, 0)", x.shuts(4, 0), -2);
        x.dig(4);
        due("it can't come now", x.shuts(3, 0), 0);
        due("it can't come now", x.shuts(3, 1), 0);
    }

    private static void promises28and29() {
        promise = "28, 29";
        in("land places 1;person turns 2;person turns 1;person turns 8;person turns 3 back;person turns 4;");
        due("turning(0)", x.turning(0), 1 + 2 + 8);
        due("turning(1)", x.turning(1), 2);
        due("when(0)", x.when(0), 2);
        due("when(1)", x.when(1), 1);
        due("it doesn't", x.when(2), -1);
        due("it has", x.when(3), -1);
        due("it doesn't", x.when(4), -1);
        due("when(5)", x.when(5), -2);
        due("when(-1)", x.when(-1), -2);
        due("turning(2)", x.turning(2), -2);
        due("turning(-1)", x.turning(-1), -2);
        due("nobody turned", x.count(6), 8);
        x.turn(3);
        due("turning(0)", x.turning(0), 0);
        due("turning(1)", x.turning(1), 0);
        StringBuilder eight = new StringBuilder("land places 1;");
        for (int i = 0; i < 8; i++) {
            eight.append("person turns ").append(7 - i).append(";");
        }
        in(eight.toString());
        due("all, one behind the other", x.turning(0), 255);
        due("eight seasons", x.turning(1), 8);
        due("the last one", x.when(0), 8);
    }

    private static void promise30() {
        promise = "30";
        in("land places 1;person turns 3;person turns 2;person turns 2;person turns 1;");
        due("starts(0)", x.starts(0), 1);
        due("starts(1)", x.starts(1), 1);
        in("land places 1;person turns 2;person turns 2;person turns 2;person turns 2 back;");
        due("besides those who have", x.starts(0), 1);
        due("besides those who have", x.starts(1), 1);
        x.turn(3);
        due("starts(0)", x.starts(0), 2);
        due("the least set", x.starts(1), 3);
        in("land places 1;person turns 8;person turns 8;person turns 8;");
        due("all of them", x.starts(1), 7);
        due("starts(2)", x.starts(2), -2);
        due("starts(-1)", x.starts(-1), -2);
        in("land places 1;person turns 1;person turns 0;");
        due("nobody has to", x.starts(0), 0);
        due("nobody has to", x.starts(1), 0);
        in("land places 1;");
        due("nobody", x.starts(0), 0);
        due("nobody", x.starts(1), 0);
    }

    private static void promise31() {
        promise = "31";
        in("land places 2;lane 0 1 depth 2 soft 2;lane 0 1 depth 6 soft 3;rain 8;wears:if rain > 4 then depth + rain - 5 else 0 end;");
        due("rains(0)", x.rains(0), -6);
        due("rains(4)", x.rains(4), -2);
        due("rains(-1)", x.rains(-1), -2);
        x.numbers(0, 3, 0);
        due("no numbers", x.rains(0), -4);
        x.numbers(0, 3, 9);
        due("nine numbers", x.rains(0), -4);
        put(0, 0);
        due("0 deep", x.rains(0), 31);
        put(0, 2);
        due("2 deep", x.rains(0), 32);
        put(0, 6);
        due("6 deep", x.rains(0), 512);
        put(0, 16, 5);
        due("both, each by the ruts as they are now", x.rains(0), 256);
        put(0, 5, 5, 16, 16, 5, 5, 16, 16);
        due("eight, some twice", x.rains(0), 256);
        put(0, 0, 2);
        due("by none", x.rains(0), 0);
        for (long v : new long[] {7, 9, 17, 20, 26, -1, -6, Long.MIN_VALUE, Long.MAX_VALUE, 1L << 32}) {
            put(0, 0, v);
            due("one that can't be: " + v, x.rains(0), -3);
        }
        put(0, 1, 1, 1, 1, 1, 1, 1, 1, 99);
        due("too many goes ahead", x.rains(0), -4);
        due("it rains as it did", x.count(5), 8);
        in("land places 2;lane 0 1 depth 6;lane 0 1 soft 4;may:1=2;");
        put(0, 11);
        due("may or may not", x.rains(0), 1023 - 3);
    }

    private static void promise32() {
        promise = "32";
        in("land places 2;lane 0 1 soft 0;lane 0 1 soft 3;lane 0 1 soft 1;");
        due("attempt(0)", x.attempt(0), -6);
        due("attempt(4)", x.attempt(4), -2);
        x.numbers(0, 3, 0);
        due("attempt(0)", x.attempt(0), -4);
        put(0, 30);
        due("attempt(0)", x.attempt(0), -3);
        put(0, 1);
        // The rains 6 to 9 are left, and all of these lanes would tell the same.
        due("the first", x.attempt(0), 0);
        put(0, 10);
        // 0 to 2 are left: lanes alike again.
        due("the first", x.attempt(0), 0);
        put(0, 0);
        // 0 to 5 are left: by lane 1 they are 3 and 3, by lane 2 5 and 1.
        due("the least of the greatest", x.attempt(0), 1);
        put(0, 0, 1);
        due("there are none", x.attempt(0), -1);
        in("land places 2;lane 0 1;lane 0 1;lane 0 1;lane 0 1;wears:if lane = 0 then 3 else if lane = 1 then"
            + " if rain = 9 or rain = 0 then 6 else if rain < 5 then 1 else 2 end end else"
            + " if lane = 2 then if rain < 4 then 6 else if rain < 7 then 5 else 4 end end else rain - 1 end end end;");
        put(0, 3);
        due("all ten, in 4 and 4 and 2, in 4 and 3 and 3, and, the least, in 2 and 5 ones and 3", x.attempt(0), 3);
        put(0, 16);
        due("0 and 9 alone", x.rains(0), 513);
        due("lane 2 tells them apart first", x.attempt(0), 2);
        in("land places 1;");
        put(0, 0);
        due("no lanes", x.attempt(0), -3);
    }

    private static void promises33and34() {
        promise = "33, 34";
        in("land places 4;lane 0 1;lane 1 2;lane 0 3;cart at 0 pull 0;");
        due("wins()", x.wins(), 1);
        due("best(), not into two more lanes", x.best(), 2);
        in("land places 3;lane 0 1;lane 1 2;cart at 0 pull 0;");
        due("two lanes on", x.wins(), 0);
        due("best()", x.best(), -1);
        x.dig(1);
        due("one lane on", x.wins(), 1);
        due("best()", x.best(), 0);
        in("land places 2;lane 0 1 soft 9;lane 0 1;lane 1 0;cart at 1 pull 0;");
        due("to and fro, no lane twice", x.wins(), 1);
        due("the first", x.best(), 0);
        in("land places 3;lane 0 1;lane 1 2;lane 2 0;lane 0 1;cart at 2 pull 0;");
        // By lane 1 to place 1, from where both lanes to place 0 leave one lane more, back to place 2.
        due("wins()", x.wins(), 1);
        due("best()", x.best(), 1);
        in("land places 2;lane 0 1;lane 0 1;lane 0 1;lane 0 1;lane 0 1;lane 0 1;lane 0 1;lane 0 1;lane 0 1;");
        due("nine lanes", x.wins(), 1);
        Check.tell(x, "land places 3;lane 0 1;lane 1 2;");
        due("nothing is left of the land ahead", x.wins(), 0);
        Check.tell(x, "land places 2;lane 0 1;");
        due("one lane", x.best(), 0);
    }

    private static void promises35and36() {
        promise = "35, 36";
        in("land places 4;lane 0 3 risk 9;lane 0 1 risk 2;lane 1 3 risk 5;lane 1 2;lane 2 3;cart at 0 pull 0;");
        int[] above = {0, 1, 2, 4, 4, 4, 4, 4};
        int[] below = {1, 10, 5, 5, 5, 5, 5, 5};
        int[] by = {-1, 0, 1, 1, 1, 1, 1, 1};
        for (int n = 0; n <= 7; n++) {
            due("chance(3, " + n + ", 0)", x.chance(3, n, 0), above[n]);
            due("chance(3, " + n + ", 1)", x.chance(3, n, 1), below[n]);
            due("bestBy(3, " + n + ")", x.bestBy(3, n), by[n]);
        }
        due("it is there", x.chance(0, 0, 0), 1);
        due("it is there", x.chance(0, 7, 1), 1);
        due("it is there", x.bestBy(0, 7), -1);
        due("chance(4, 8, 0)", x.chance(4, 8, 0), -2);
        due("chance(0, 8, 2)", x.chance(0, 8, 2), -2);
        due("chance(0, 8, 0)", x.chance(0, 8, 0), -3);
        due("chance(0, -1, 1)", x.chance(0, -1, 1), -3);
        due("bestBy(4, 8)", x.bestBy(4, 8), -2);
        due("bestBy(-1, 1)", x.bestBy(-1, 1), -2);
        due("bestBy(0, 8)", x.bestBy(0, 8), -3);
        due("bestBy(3, -1)", x.bestBy(3, -1), -3);
        in("land places 2;lane 0 1 risk 10;lane 0 1 depth 1;cart at 0 pull 0;");
        due("never so", x.chance(1, 7, 0), 0);
        due("never so", x.chance(1, 7, 1), 1);
        due("never so", x.bestBy(1, 7), -1);
        StringBuilder chain = new StringBuilder("land places 7;");
        for (int i = 0; i < 6; i++) {
            chain.append("lane ").append(i).append(" ").append(i + 1).append(" risk 7;");
        }
        in(chain.toString());
        due("in lowest terms", x.chance(6, 7, 0), 729);
        due("in lowest terms", x.chance(6, 6, 1), 1000000);
        in("land places 3;lane 0 1 risk 5;lane 1 2 risk 6;lane 0 2 risk 8;");
        due("like ones", x.chance(2, 2, 1), 5);
        due("the first of them", x.bestBy(2, 2), 0);
    }

    private static void promise37() {
        promise = "37";
        x = new RutWays();
        due("numbers(4, 0, 1)", x.numbers(4, 0, 1), -2);
        due("numbers(-1, 0, 1)", x.numbers(-1, 0, 1), -2);
        due("numbers(0, 4, 1)", x.numbers(0, 4, 1), -2);
        due("numbers(0, -1, 1)", x.numbers(0, -1, 1), -2);
        due("numbers(0, 4, 41)", x.numbers(0, 4, 41), -2);
        due("numbers(0, 0, 41)", x.numbers(0, 0, 41), -3);
        due("numbers(0, 0, -1)", x.numbers(0, 0, -1), -3);
        due("still missing", x.write(0, 0, 1), -6);
        due("numbers(3, 3, 40)", x.numbers(3, 3, 40), 0);
        due("write(3, 39, 50)", x.write(3, 39, 50), 50);
        due("all 0: it goes by lane 0", x.judge(3, 0), 0);
        put(3, 50, 99);
        due("numbers(3, 0, 41)", x.numbers(3, 0, 41), -3);
        due("the tray stays", x.judge(3, 0), 1);
        due("in place of another one", x.numbers(3, 0, 2), 0);
        due("all 0", x.judge(3, 0), 0);
        due("none of them", x.numbers(3, 0, 0), 0);
        due("write(3, 0, 1)", x.write(3, 0, 1), -7);
    }

    private static void promise38() {
        promise = "38";
        x = new RutWays();
        due("write(0, 0, 1)", x.write(0, 0, 1), -6);
        due("write(4, 0, 1)", x.write(4, 0, 1), -2);
        due("write(-1, 0, 1)", x.write(-1, 0, 1), -2);
        long[] values = {0x123456789abcdef8L, 127, 128, -129, 65535, 1L << 31, Long.MIN_VALUE};
        for (int sort = 0; sort <= 3; sort++) {
            x.numbers(1, sort, 2);
            for (long v : values) {
                long cut = sort == 0 ? (byte) v : sort == 1 ? (short) v : sort == 2 ? (int) v : v;
                due("write(1, 1, " + v + ")", x.write(1, 1, v), cut);
            }
        }
        due("write(1, 2, 1)", x.write(1, 2, 1), -7);
        due("write(1, -1, 1)", x.write(1, -1, 1), -7);
        due("write(1, max, 1)", x.write(1, Integer.MAX_VALUE, 1), -7);
        x.numbers(2, 0, 1);
        x.write(2, 0, 256 + 50);
        due("as it is there: a season", x.judge(2, 0), -1);
    }

    private static void promise39() {
        promise = "39";
        in("land places 4;lane 2 3;lane 1 2;lane 0 1 depth 3;cart at 0 pull 0;");
        due("lists(0, 3)", x.lists(0, 3), -6);
        due("lists(4, 3)", x.lists(4, 3), -2);
        due("lists(0, 4)", x.lists(0, 4), -2);
        due("lists(-1, 0)", x.lists(-1, 0), -2);
        put(0, 50, 50, 50, 50, 50);
        due("lists(0, 3)", x.lists(0, 3), 3);
        x.fill(2);
        x.fill(2);
        x.fill(2);
        due("2, 1, 0 and what was there", x.perform(0), 5);
        due("cart", x.count(3), 3);
        due("lists(0, 3), it is there", x.lists(0, 3), 0);
        x.undo(1);
        put(1, 9, 9);
        due("as far as it has places", x.lists(1, 3), 2);
        due("it can go so", x.perform(1), 2);
        due("cart", x.count(3), 2);
        x.numbers(2, 0, 0);
        due("no places", x.lists(2, 0), 0);
        in("land places 2;");
        put(0, 4);
        due("there is none", x.lists(0, 1), -5);
        due("the missing goes ahead", x.lists(1, 1), -6);
    }

    private static void promises40and41() {
        promise = "40, 41";
        in("land places 3;lane 0 1 soft 9;lane 1 2 depth 3;cart at 0 pull 2;person turns 0;rain 4;wears:depth+2;may:depth<3;");
        due("restore(0)", x.restore(0), -5);
        due("restore(2)", x.restore(2), -2);
        due("restore(-1)", x.restore(-1), -2);
        due("image(2)", x.image(2), -2);
        due("image(-1)", x.image(-1), -2);
        x.go(0);
        due("image(0)", x.image(0), 0);
        due("calls that can be undone stay", x.count(9), 1);
        x.turn(0);
        x.rain(9);
        x.go(0);
        due("image(1)", x.image(1), 0);
        for (int i = 0; i < 4; i++) {
            Check.tell(x, "land places 7;lane 5 6;rain " + i + ";may:1=1;wears:6;");
        }
        x.rain(3);
        Check.feedText(x, "land");
        x.numbers(0, 0, 1);
        due("restore(0)", x.restore(0), 0);
        int[] then = {3, 2, 1, 1, 2, 4, 0, 5, 1, 0, 20, 8};
        for (int i = 0; i < then.length; i++) {
            due("count(" + i + ")", x.count(i), then[i]);
        }
        due("the laws", x.worn(0), 4);
        due("the laws", x.why(1), 3);
        due("nothing can be undone", x.undo(1), -3);
        due("trays stay", x.write(0, 0, 5), 5);
        x.dig(1);
        due("restore(1)", x.restore(1), 0);
        due("back", x.count(6), 1);
        due("rain", x.count(5), 9);
        due("went", x.count(8), 2);
        due("restore(0), as it was made", x.restore(0), 0);
        due("depths", x.count(7), 5);
        due("a fault", x.land(4), -32);
        due("restore(1)", x.restore(1), 0);
        due("fault stays", x.fault(0), 2);
        for (int one = 0; one < 2; one++) {
            in("land places 5;lane 3 4 soft 2;rain 2;may:1=2;");
            x.image(one);
            for (int i = 0; i < 5; i++) {
                Check.tell(x, "land places 6;lane 0 5 soft 9;may:1=1;");
            }
            due("restore(" + one + ")", x.restore(one), 0);
            due("places", x.count(0), 5);
            due("soft", x.lane(0, 3), 2);
            due("law", x.lane(0, 5), 0);
            due("the other one was never made", x.restore(1 - one), -5);
        }
        x = new RutWays();
        due("image(0) without a land", x.image(0), 0);
        Check.tell(x, "land places 2;");
        due("restore(0)", x.restore(0), 0);
        due("places", x.count(0), 1);
        due("lines", x.count(11), 0);
    }

    private static void promise42() {
        promise = "42";
        in("land places 6;lane 0 1 depth 2 soft 9;lane 0 2 depth 4;cart at 1 pull 7;person turns 5;person turns 5 back;rain 3;");
        x.go(0);
        x.go(0);
        x.fill(1);
        Check.feedText(x, "something that is on the tape");
        int[] then = {6, 2, 2, 1, 7, 3, 2, 7, 2, 3, 40, 7};
        for (int i = 0; i < then.length; i++) {
            due("count(" + i + ")", x.count(i), then[i]);
        }
        due("count(12)", x.count(12), -1);
        for (int what : ODD) {
            due("count(" + what + ")", x.count(what), -1);
        }
    }
}
