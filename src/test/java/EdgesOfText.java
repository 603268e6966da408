/** Edges of the land's text: how long, its lines, tokens, faults; promises 1 to 4. */
final class EdgesOfText extends Edges {
    private static final String LAND = "land places 3;";

    private EdgesOfText() {
    }

    static void run() {
        withoutLand();
        length();
        lines();
        sums();
        truths();
        withinOneAnother();
        boundsOfPlaces();
        boundsOfLanes();
        boundsOfCarts();
        boundsOfPeople();
        boundsOfRain();
        tokens();
        faultsFirst();
        faultOne();
        faultTwo();
        faultThree();
        faultFour();
        feeding();
        landing();
        faulting();
    }

    private static void withoutLand() {
        says(TERMS, "(without one: 1 PLACE, no LANES, no PEOPLE, the cart at 0, PULL 0, RAIN 0)");
        x = new RutWays();
        due("places", x.count(0), 1);
        due("lanes", x.count(1), 0);
        due("people", x.count(2), 0);
        due("cart", x.count(3), 0);
        due("pull", x.count(4), 0);
        due("rain", x.count(5), 0);
        says(1, "1 PLACE, no LANES, no PEOPLE.");
        x = new RutWays();
        due("place 0", x.soonest(0), 0);
        due("no place 1", x.soonest(1), -2);
        due("no lane 0", x.lane(0, 0), -2);
        due("no person 0", x.when(0), -2);
        due("no person turned back", x.count(6), 0);
        due("no depths", x.count(7), 0);
        due("it never went", x.count(8), 0);
        due("nothing can be undone", x.undo(1), -3);
        due("the tape is empty", x.count(10), 0);
        due("no lines", x.count(11), 0);
        says(TERMS, "The constants: `NONE = -1`: There is none.");
        due("NONE", RutWays.NONE, -1);
    }

    private static void length() {
        says(TERMS, "THE LAND is a TEXT of at most 900 bytes");
        String last = "rain 7;";
        String full = LAND + times(" ", 900 - LAND.length() - last.length()) + last;
        x = new RutWays();
        for (int i = 0; i < 900; i += 20) {
            due("feed", fed(full, i), i + 20);
        }
        due("a 901st byte", fed(full, 0), -5);
        due("land(901)", x.land(901), -3);
        due("land(900)", x.land(900), 2);
        due("its last bytes count", x.count(5), 7);
        x = new RutWays();
        Check.feedText(x, full);
        due("land(899), the last sign isn't there", x.land(899), -32);
        due("the end is where the text's length is", x.fault(1), 899);
        String many = LAND + times("rain 1;", 126);
        fine(127, many + "    ");
        fine(2, LAND + "wears:" + times("1+", 439) + "1;");
        due("a sum of 429 numbers", lawful("wears:" + times("1-1+", 214) + "5;", 0), 5);
    }

    private static int fed(String text, int i) {
        return x.feed(Check.wordAt(text, i), Check.wordAt(text, i + 4), Check.wordAt(text, i + 8), Check.wordAt(text, i + 12),
            Check.wordAt(text, i + 16));
    }

    /** How deep lane 0, so deep now, becomes by a law. */
    private static int lawful(String law, int depth) {
        RutWays y = new RutWays();
        Check.tell(y, "land places 2;lane 0 1 depth " + depth + ";" + law);
        return y.worn(0);
    }

    private static void lines() {
        says(TERMS, "land places N ; { LINE ; } LINE: lane N N { FLAG } | cart at N pull N | person turns N { back } | rain N"
            + " | wears : SUM | may : TRUTH. FLAG: depth N | soft N | risk N.");
        fine(1, "land places 2;");
        fine(2, LAND + "lane 0 1;");
        fine(2, LAND + "lane 0 1 depth 1;");
        fine(2, LAND + "lane 0 1 risk 1 soft 2 depth 3 soft 4 risk 5;");
        fine(2, LAND + "cart at 0 pull 0;");
        fine(2, LAND + "person turns 0;");
        fine(2, LAND + "person turns 0 back;");
        fine(2, LAND + "person turns 0 back back back;");
        fine(2, LAND + "person turns 0" + times(" back", 170) + ";");
        fine(2, LAND + "lane 0 1" + times(" depth 6 soft 9 risk 9", 38) + " risk 10;");
        due("the last of many", x.lane(0, 4), 10);
        fine(2, LAND + "rain 0;");
        fine(2, LAND + "wears:0;");
        fine(2, LAND + "may:0=0;");
        fine(8, LAND + "may:0=0;wears:0;rain 0;person turns 0;cart at 0 pull 0;lane 0 1;lane 1 0;");
        fault(2, "land places 2^");
        fault(2, "land places ^;");
        fault(2, "land ^2;");
        fault(2, LAND + "^;");
        fault(2, LAND + "lane ^;");
        fault(2, LAND + "lane 0 ^;");
        fault(2, LAND + "lane 0 1 ^2;");
        fault(2, LAND + "lane 0 1 depth ^;");
        fault(2, LAND + "lane 0 1 depth 1 ^1;");
        fault(2, LAND + "lane 0 1 soft ^;");
        fault(2, LAND + "lane 0 1 risk ^;");
        fault(2, LAND + "lane 0 1 ^back;");
        fault(2, LAND + "cart ^0 pull 0;");
        fault(2, LAND + "cart at ^pull 0;");
        fault(2, LAND + "cart at 0^;");
        fault(2, LAND + "cart at 0 ^0;");
        fault(2, LAND + "cart at 0 pull ^;");
        fault(2, LAND + "person ^0;");
        fault(2, LAND + "person turns ^;");
        fault(2, LAND + "person turns ^back;");
        fault(2, LAND + "person turns 0 back ^0;");
        fault(2, LAND + "rain ^;");
        fault(2, LAND + "rain ^: 0;");
        fault(2, LAND + "rain 0 ^0;");
        fault(2, LAND + "wears ^0;");
        fault(2, LAND + "wears: ^;");
        fault(2, LAND + "may ^0=0;");
        fault(2, LAND + "may: ^;");
        fault(2, LAND + "may: 0^;");
        for (String line : new String[] {"lane 0 1", "cart at 0 pull 0", "person turns 0", "rain 0", "wears:0", "may:0=0"}) {
            fault(2, LAND + line + "^");
            fault(2, LAND + line + " ^:");
            fault(2, LAND + line + " ^" + line + ";");
        }
    }

    private static void sums() {
        says(TERMS, "SUM: TERM { + TERM | - TERM }; TERM: ATOM { * ATOM };"
            + " ATOM: N, ( SUM ), if TRUTH then SUM else SUM end, lane, depth, soft, pull, rain, in may back too.");
        due("one term", lawful("wears:5;", 0), 5);
        due("from the left on", lawful("wears:9-3-2;", 0), 4);
        due("from the left on", lawful("wears:9-3+2-5;", 0), 3);
        due("* ahead of +", lawful("wears:1+2*2;", 0), 5);
        due("* ahead of -", lawful("wears:7-2*2;", 0), 3);
        due("* ahead of + behind it", lawful("wears:2*2+1;", 0), 5);
        due("three by *", lawful("wears:1*2*3;", 0), 6);
        due("many by *", lawful("wears:" + times("1*", 400) + "5;", 0), 5);
        due("many by + and -", lawful("wears:" + times("1-1+", 200) + "3;", 0), 3);
        due("( SUM )", lawful("wears:(1+2)*2;", 0), 6);
        due("( SUM )", lawful("wears:6-(3-2);", 0), 5);
        due("N", lawful("wears:000;", 4), 0);
        due("N", lawful("wears:999-998;", 4), 1);
        due("if", lawful("wears:if 1=1 then 2 else 3 end;", 0), 2);
        due("if in a term", lawful("wears:2*if 1=2 then 2 else 3 end*1;", 0), 6);
        in("land places 2;lane 0 1;lane 0 1 depth 1 soft 2;cart at 0 pull 3;rain 4;wears:lane;");
        due("lane", x.worn(1), 1);
        due("lane", x.worn(0), 0);
        in("land places 2;lane 0 1;lane 0 1 depth 1 soft 2;cart at 0 pull 3;rain 4;wears:depth;");
        due("depth", x.worn(1), 1);
        in("land places 2;lane 0 1;lane 0 1 depth 1 soft 2;cart at 0 pull 3;rain 4;wears:soft;");
        due("soft", x.worn(1), 2);
        in("land places 2;lane 0 1;lane 0 1 depth 1 soft 2;cart at 0 pull 3;rain 4;wears:pull;");
        due("pull", x.worn(1), 3);
        in("land places 2;lane 0 1;lane 0 1 depth 1 soft 2;cart at 0 pull 3;rain 4;wears:rain;");
        due("rain", x.worn(1), 4);
        String may = "land places 2;lane 0 1;lane 0 1 depth 1 soft 2;cart at 0 pull 3;rain 4;person turns 8 back;person turns 8;may:";
        String[] atoms = {"lane=1", "depth=1", "soft=2", "pull=3", "rain=4", "back=1", "7=7", "(7)=7", "if 1=1 then 1 else 2 end=1"};
        for (String atom : atoms) {
            in(may + atom + ";");
            due(atom, x.lane(1, 5), 1);
            in(may + "not " + atom + ";");
            due("not " + atom, x.lane(1, 5), 0);
        }
        fault(2, LAND + "wears: 1 + ^;");
        fault(2, LAND + "wears: ^- 1;");
        fault(2, LAND + "wears: ^+ 1;");
        fault(2, LAND + "wears: 1 * ^;");
        fault(2, LAND + "wears: ^* 1;");
        fault(2, LAND + "wears: 1 + ^- 1;");
        fault(2, LAND + "wears: (^);");
        fault(2, LAND + "wears: (1^;");
        fault(2, LAND + "wears: 1^);");
        fault(2, LAND + "wears: 1 ^1;");
        fault(2, LAND + "wears: 1 ^(1);");
        fault(2, LAND + "wears: ^risk;");
        fault(2, LAND + "may: ^risk = 1;");
        fault(2, LAND + "wears: if ^then 1 else 2 end;");
        fault(2, LAND + "wears: if 1 ^then 1 else 2 end;");
        fault(2, LAND + "wears: if 1=1 ^else 2 end;");
        fault(2, LAND + "wears: if 1=1 then ^else 2 end;");
        fault(2, LAND + "wears: if 1=1 then 1 ^end;");
        fault(2, LAND + "wears: if 1=1 then 1 else ^end;");
        fault(2, LAND + "wears: if 1=1 then 1 else 2^;");
        fault(2, LAND + "wears: if 1=1 then 1^=1 else 2 end;");
        fault(2, LAND + "wears: ^then;");
        fault(2, LAND + "wears: ^end;");
    }

    private static void truths() {
        says(TERMS, "TRUTH: BOTH { or BOTH }; BOTH: UNIT { and UNIT }; UNIT: not UNIT, [ TRUTH ], or SUM, one of = < >, SUM.");
        String[] yes = {"1=1", "1<2", "2>1", "not 1=2", "[1=1]", "1=2 or 1=1", "1=1 or 1=2", "1=1 and 2=2", "1=2 or 1=2 or 1=1",
            "1=1 and 1=1 and 1=1", "1=1 or 1=1 and 1=2", "1=2 and 1=2 or 1=1", "1=2 and 1=1 or 1=1", "not 1=2 and 1=1",
            "not [1=1 and 1=2]", "not not 1=1", "not 1=2 or 1=2", "[1=2 or 1=1] and 1=1", "1+1=2", "1<1+1", "2*2>3", "(1)=1",
            "not 1=1 or 1=1", "[[1=1]]", "not [not [1=1]]", "2>1 and 1=1", "1<2 and 2>1", "2>1 and 2>1", "1=1 and 1<2", "2>1 or 1>2"};
        String[] no = {"1=2", "2=1", "1<1", "2<1", "1>1", "1>2", "not 1=1", "[1=2]", "1=2 or 2=1", "1=1 and 1=2", "1=2 and 1=1",
            "[1=1 or 1=1] and 1=2", "not [1=2 or 1=1]", "not not 1=2", "not 1=1 and 1=1", "not 1=1 and 1=2", "1=1 and 1=1 and 1=2",
            "1=2 or 1=1 and 1=2", "1=2 and [1=1 or 1=1]", "not 2>1", "not 1<2", "2>1 and 1>2", "1>2 or 2<1"};
        fine(2, LAND + "may:" + times("1=2 or ", 120) + "1=1;");
        fine(2, LAND + "may:" + times("1=1 and ", 100) + "1=1;");
        due("many by or", lawful("wears:if " + times("1=2 or ", 110) + "1=1 then 5 else 2 end;", 0), 5);
        due("many by and", lawful("wears:if " + times("1=1 and ", 100) + "1=2 then 5 else 2 end;", 0), 2);
        for (String truth : yes) {
            in("land places 2;lane 0 1;may:" + truth + ";");
            due(truth, x.why(0), 0);
            due("if " + truth, lawful("wears:if " + truth + " then 5 else 2 end;", 0), 5);
        }
        for (String truth : no) {
            in("land places 2;lane 0 1;may:" + truth + ";");
            due(truth, x.why(0), 3);
            due("if " + truth, lawful("wears:if " + truth + " then 5 else 2 end;", 0), 2);
        }
        fault(2, LAND + "may: 1=1 or ^;");
        fault(2, LAND + "may: 1=1 and ^;");
        fault(2, LAND + "may: ^or 1=1;");
        fault(2, LAND + "may: ^and 1=1;");
        fault(2, LAND + "may: 1=1 or ^or 1=1;");
        fault(2, LAND + "may: not ^;");
        fault(2, LAND + "may: 1=1 ^not 1=1;");
        fault(2, LAND + "may: [^];");
        fault(2, LAND + "may: [1^];");
        fault(2, LAND + "may: [1=1^;");
        fault(2, LAND + "may: [1=1^);");
        fault(2, LAND + "may: (1^=1);");
        fault(2, LAND + "may: 1=1^];");
        fault(2, LAND + "may: 1=^;");
        fault(2, LAND + "may: ^=1;");
        fault(2, LAND + "may: 1=1^=1;");
        fault(2, LAND + "may: 1<^=1;");
        fault(2, LAND + "may: 1=^[1=1];");
        fault(2, LAND + "may: [1=1]^=1;");
        fault(2, LAND + "may: 1=1 ^1=1;");
    }

    private static void withinOneAnother() {
        says(TERMS, "At most six of not [ ( if within one another.");
        fine(2, LAND + "may:" + times("not ", 6) + "1=1;");
        fault(4, LAND + "may:" + times("not ", 6) + "^not 1=1;");
        fine(2, LAND + "may:" + times("[", 6) + "1=1" + times("]", 6) + ";");
        fault(4, LAND + "may:" + times("[", 6) + "^[1=1" + times("]", 7) + ";");
        fine(2, LAND + "wears:" + times("(", 6) + "1" + times(")", 6) + ";");
        fault(4, LAND + "wears:" + times("(", 6) + "^(1" + times(")", 7) + ";");
        fine(2, LAND + "wears:" + times("if 1=1 then ", 6) + "1" + times(" else 2 end", 6) + ";");
        fault(4, LAND + "wears:" + times("if 1=1 then ", 6) + "^if 1=1 then 1 else 2 end" + times(" else 2 end", 6) + ";");
        fine(2, LAND + "wears:" + times("if 1=1 then 1 else ", 6) + "2" + times(" end", 6) + ";");
        fault(4, LAND + "wears:" + times("if 1=1 then 1 else ", 6) + "^if 1=1 then 1 else 2 end" + times(" end", 6) + ";");
        fine(2, LAND + "wears:" + times("if ", 6) + "1=1" + times(" then 1 else 2 end=1", 5) + " then 1 else 2 end;");
        fault(4, LAND + "wears:" + times("if ", 6) + "^if 1=1" + times(" then 1 else 2 end=1", 6) + " then 1 else 2 end;");
        fine(2, LAND + "may:not [not [(if 1=1 then 1 else 2 end)=1]];");
        fault(4, LAND + "may:not [not [(if ^(1)=1 then 1 else 2 end)=1]];");
        fault(4, LAND + "may:not [not [(if 1=1 then ^(1) else 2 end)=1]];");
        fault(4, LAND + "may:not [not [(if 1=1 then 1 else ^(2) end)=1]];");
        fault(4, LAND + "may:not [not [(if ^not 1=1 then 1 else 2 end)=1]];");
        fault(4, LAND + "may:not [not [(if ^[1=1] then 1 else 2 end)=1]];");
        // Beside one another they may be more, also behind one that was closed.
        fine(2, LAND + "wears:" + times("(1)+", 30) + "1;");
        fine(2, LAND + "may:" + times("not 1=2 and ", 30) + "1=1;");
        fine(2, LAND + "may:" + times("[1=1] and ", 30) + "1=1;");
        fine(2, LAND + "wears:" + times("if 1=1 then 1 else 2 end+", 20) + "1;");
        fine(2, LAND + "wears:" + times("(", 6) + "1" + times(")", 6) + "+" + times("(", 6) + "1" + times(")", 6) + ";");
        fine(2, LAND + "may:" + times("not ", 6) + "1=1 and " + times("[", 6) + "1=1" + times("]", 6) + ";");
        fine(2, LAND + "may:not not not not not (1)=(1) and not not not not not not 1=1;");
        fault(4, LAND + "may:not not not not not (1)=(^(1));");
        fine(3, LAND + "may:" + times("not ", 6) + "1=1;wears:" + times("(", 6) + "1" + times(")", 6) + ";");
        deepest();
        due("six times not", lawful("wears:if " + times("not ", 5) + "1=2 then 5 else 2 end;", 0), 5);
    }

    /** Six within one another, each in the last part of all that can stand around it. */
    private static void deepest() {
        String truth = "depth=0";
        String sum = "depth";
        for (int i = 0; i < 6; i++) {
            truth = "1=2 or 1=1 and 0<0+1*if " + truth + " then 1 else 0 end";
            sum = "0+1*if 1=2 then 9 else " + sum + " end";
        }
        in("land places 2;lane 0 1;lane 0 1 depth 1;may:" + truth + ";");
        due("it holds", x.lane(0, 5), 1);
        due("it doesn't", x.lane(1, 5), 0);
        for (int depth = 0; depth <= 6; depth++) {
            due("as deep as it was", lawful("wears:" + sum + ";", depth), depth);
        }
    }

    private static void boundsOfPlaces() {
        says(TERMS, "land: how many PLACES, 1 to 7, numbered from 0 on.");
        fault(3, "land places ^0;");
        fine(1, "land places 1;");
        due("places", x.count(0), 1);
        due("the first", x.soonest(0), 0);
        due("the second", x.soonest(1), -2);
        fine(1, "land places 7;");
        due("places", x.count(0), 7);
        due("the last", x.soonest(6), -1);
        due("no more", x.soonest(7), -2);
        fault(3, "land places ^8;");
        fault(3, "land places ^999;");
        fault(3, "land places ^000;");
        fine(1, "land places 007;");
        due("places", x.count(0), 7);
    }

    private static void boundsOfLanes() {
        says(TERMS, "lane: two PLACES, not one; depth 0 to 6, soft 0 to 9, risk 0 to 10 (0 each; later ones strike);"
            + " numbered from 0 on, 9 at most.");
        fault(3, LAND + "lane 0 ^0;");
        fault(3, LAND + "lane 2 ^2;");
        fault(3, LAND + "lane ^3 0;");
        fault(3, LAND + "lane 0 ^3;");
        fault(3, LAND + "lane ^3 3;");
        fault(3, "land places 1;lane 0 ^1;");
        fault(3, "land places 1;lane ^1 0;");
        fault(3, "land places 7;lane 0 ^7;");
        fine(2, "land places 7;lane 6 0;");
        due("ends", x.lane(0, 0), 6);
        due("ends", x.lane(0, 1), 0);
        for (int what = 2; what < 5; what++) {
            due("0 each", x.lane(0, what), 0);
        }
        fine(2, LAND + "lane 0 1 depth 0 soft 0 risk 0;");
        fine(2, LAND + "lane 0 1 depth 6 soft 9 risk 10;");
        due("depth 6", x.lane(0, 2), 6);
        due("soft 9", x.lane(0, 3), 9);
        due("risk 10", x.lane(0, 4), 10);
        fault(3, LAND + "lane 0 1 depth ^7;");
        fault(3, LAND + "lane 0 1 soft ^10;");
        fault(3, LAND + "lane 0 1 risk ^11;");
        fine(2, LAND + "lane 0 1 depth 5 depth 2 soft 8 soft 3 risk 7 risk 4;");
        due("the later depth", x.lane(0, 2), 2);
        due("the later soft", x.lane(0, 3), 3);
        due("the later risk", x.lane(0, 4), 4);
        fine(2, LAND + "lane 0 1 depth 5 soft 8 risk 7 depth 0 soft 0 risk 0;");
        due("a later 0", x.lane(0, 2) + x.lane(0, 3) + x.lane(0, 4), 0);
        StringBuilder nine = new StringBuilder(LAND);
        for (int l = 0; l < 9; l++) {
            nine.append("lane 0 1 depth ").append(l % 7).append(" soft ").append(l).append(" risk ").append(l + 1).append(";");
        }
        fine(10, nine.toString());
        due("nine", x.count(1), 9);
        for (int l = 0; l < 9; l++) {
            due("numbered as told", x.lane(l, 2), l % 7);
            due("numbered as told", x.lane(l, 3), l);
            due("numbered as told", x.lane(l, 4), l + 1);
        }
        due("no lane 9", x.lane(9, 3), -2);
        fault(4, nine + "^lane 0 1;");
    }

    private static void boundsOfCarts() {
        says(TERMS, "cart: a PLACE, how it PULLS, 0 to 9.");
        fine(2, LAND + "cart at 0 pull 0;");
        fine(2, LAND + "cart at 2 pull 9;");
        due("cart", x.count(3), 2);
        due("pull", x.count(4), 9);
        fault(3, LAND + "cart at ^3 pull 9;");
        fault(3, LAND + "cart at 2 pull ^10;");
        fault(3, "land places 1;cart at ^1 pull 0;");
        fine(2, "land places 7;cart at 6 pull 0;");
        fault(3, "land places 7;cart at ^7 pull 0;");
    }

    private static void boundsOfPeople() {
        says(TERMS, "person: turns back if so many others have, 0 to 8; back: it has; numbered from 0 on, 8 at most.");
        fine(2, LAND + "person turns 0;");
        fine(2, LAND + "person turns 8;");
        fault(3, LAND + "person turns ^9;");
        fault(3, LAND + "person turns ^9 back;");
        StringBuilder eight = new StringBuilder(LAND);
        for (int p = 0; p < 8; p++) {
            eight.append("person turns 8").append(p % 3 == 1 ? " back;" : ";");
        }
        fine(9, eight.toString());
        due("eight", x.count(2), 8);
        due("who has, numbered as told", x.count(6), 2 + 16 + 128);
        due("the last one", x.turn(7), 0);
        due("no person 8", x.turn(8), -11);
        fault(4, eight + "^person turns 8;");
    }

    private static void boundsOfRain() {
        says(TERMS, "rain 0 to 9; later ones of cart, rain, wears, may strike.");
        fine(2, LAND + "rain 0;");
        fine(2, LAND + "rain 9;");
        due("rain", x.count(5), 9);
        fault(3, LAND + "rain ^10;");
        fine(3, LAND + "rain 9;rain 0;");
        due("the later rain", x.count(5), 0);
        fine(3, LAND + "cart at 2 pull 9;cart at 0 pull 0;");
        due("the later cart", x.count(3), 0);
        due("the later pull", x.count(4), 0);
        due("the later wears", lawful("wears:5;wears:2;", 4), 2);
        due("the later wears, though longer", lawful("wears:5;wears:1+1+1;", 4), 3);
        in("land places 2;lane 0 1;may:1=1;may:1=2;");
        due("the later may", x.why(0), 3);
        in("land places 2;lane 0 1 depth 3;may:1=2;wears:5;may:1=1;wears:1;");
        due("the later may", x.why(0), 0);
        due("the later wears", x.worn(0), 1);
        due("all are lines", x.count(11), 6);
        due("the last of many", lawful(times("wears:1;", 100) + "wears:4;", 0), 4);
        in("land places 2;lane 0 1;" + times("may:1=2;", 100) + "may:1=1;");
        due("the last of many", x.why(0), 0);
        fault(3, LAND + "rain ^10;rain 1;");
        fault(3, LAND + "cart at ^3 pull 0;cart at 0 pull 0;");
    }

    private static void tokens() {
        says(TERMS, "TOKENS, as long as they go on, between them blanks (10, 32): words (small letters), N (1 to 3 digits),"
            + " the signs ; : + - * ( ) [ ] = < >.");
        fault(2, "^landplaces 3;");
        fault(2, LAND + "lane 0 1 ^depthsoft 1;");
        fault(2, LAND + "may:1=1 ^andnot 1=1;");
        fine(1, "land places3;");
        fine(2, LAND + "lane0 1depth3soft4risk5;");
        due("words and digits need no blank between them", x.lane(0, 2), 3);
        fault(3, LAND + "lane ^31;");
        fault(2, LAND + "lane 01^;");
        fine(2, LAND + "rain 9;");
        fine(2, LAND + "rain 09;");
        fine(2, LAND + "rain 009;");
        fault(1, LAND + "rain ^0009;");
        fault(2, LAND + "rain 0 ^9;");
        fine(1, " \n land \n\n places\n3 ; \n");
        fine(3, "land\nplaces\n3\n;\nlane\n0\n1\n;\nmay\n:\n(\n1\n)\n=\n1\n;");
        for (int c = 0; c < 256; c++) {
            boolean blank = c == 10 || c == 32;
            boolean token = c >= 'a' && c <= 'z' || c >= '0' && c <= '9' || ";:+-*()[]=<>".indexOf((char) c) >= 0;
            if (blank) {
                fine(1, "land" + (char) c + "places 3;");
            } else if (!token) {
                fault(1, "land^" + (char) c + "places 3;");
                fault(1, LAND + "may:1=1^" + (char) c + ";");
            }
            if (!blank) {
                fault(token ? 2 : 1, LAND + "^" + (char) c);
            }
        }
        fault(1, LAND + "lane 0 1 ^Depth 1;");
        fault(2, "^xand places 3;");
        fault(2, "^lanx places 3;");
        fault(2, "^an places 3;");
        fault(2, "land ^placess 3;");
        fault(2, "land ^place 3;");
        fault(2, "land places ^x;");
        fault(2, LAND + "lane ^a 1;");
        fault(2, LAND + "lane 0 ^b;");
        fault(2, LAND + "rain ^x;");
        fault(2, LAND + "rain ^nine;");
        fault(2, LAND + "wears:^x;");
        fault(2, LAND + "wears:1+^x;");
        fault(2, LAND + "may:1=^x;");
        fault(2, LAND + "lane 0 1 ^depH 1;");
    }

    private static void faultsFirst() {
        says(TERMS, "FAULTS, the first along the text, of one TOKEN the least kind:");
        fault(2, LAND + "^lanes 0 9;@");
        fault(3, LAND + "lane 0 ^9 @");
        fault(2, LAND + "rain ^; rain 10; @");
        fault(2, LAND + "rain 1 ^rain 10;");
        fault(2, LAND + "lane 0 1 ^rain @;");
        fault(2, LAND + "cart at 0 pull 0 ^lane 0 0;");
        fault(2, "land places 2 ^rain 10;");
        fault(1, LAND + "rain ^@; rain 10;");
        fault(3, LAND + "rain ^10 rain 1000");
        fault(4, LAND + times("lane 0 1;", 9) + "^lane 9 9 @");
        fault(1, LAND + times("lane 0 1;", 9) + "^@lane 9 9");
        fault(2, LAND + times("lane 0 1;", 9) + "^laner 9 9");
        fault(1, LAND + "rain ^1000;");
        fault(1, LAND + "^1000;");
        fault(2, LAND + "rain 1 ^10;");
        fault(2, LAND + "wears:" + times("(", 6) + "1 ^(1);");
        fault(1, "^@");
        fault(2, "^rain @");
    }

    private static void faultOne() {
        says(TERMS, "1 no TOKEN begins so (4 digits and more: at their first).");
        fault(1, LAND + "lane 0 1 soft ^0001;");
        fault(1, LAND + "lane 0 1 soft ^12345678901234567890;");
        fine(2, LAND + "wears:999;");
        fault(1, LAND + "wears:^1000;");
        fault(1, LAND + "wears:1 + ^0000;");
        fault(1, LAND + "wears:1 + 22 ^4444;");
        fault(1, LAND + "wears:1^,2;");
        fault(1, LAND + "wears:1^/2;");
        fault(1, LAND + "may:1^!=2;");
        fault(1, LAND + "may:^{1=2};");
        fault(1, LAND + "^\t");
        fault(1, LAND + "^\r\n");
        fault(1, LAND + "^" + (char) 255);
        fault(1, LAND + "^" + (char) 0);
        fault(1, LAND + "rain 1^" + (char) 160 + ";");
    }

    private static void faultTwo() {
        says(TERMS, "2 it can't stand there (the end: the text's length; land must be told first, and once; back in wears).");
        fault(2, "^");
        fault(2, "   ^");
        fault(2, "land^");
        fault(2, "land  \n^");
        fault(2, "land places 3^");
        fault(2, LAND + "rain 3 \n ^");
        fault(2, LAND + "may: not^");
        x = new RutWays();
        Check.feedText(x, LAND);
        due("only the first bytes count", x.land(13), -32);
        due("the length of the text, not of the tape", x.fault(1), 13);
        fault(2, "^rain 1;land places 3;");
        fault(2, "^lane 0 1;");
        fault(2, "^;land places 3;");
        fault(2, "^places 3;");
        fault(2, LAND + "^land places 3;");
        fault(2, LAND + "rain 1;^land places 3;");
        fault(2, LAND + "wears: ^back;");
        fault(2, LAND + "wears: 1 + ^back;");
        fault(2, LAND + "wears: (^back);");
        fault(2, LAND + "wears: if ^back = 1 then 1 else 2 end;");
        fault(2, LAND + "wears: if 1 = 1 then ^back else 2 end;");
        fault(2, LAND + "may: back = 1; wears: ^back;");
        fine(3, LAND + "wears: 1; may: back = 1;");
        fine(2, LAND + "may: if back = 1 then back else (back) end = back;");
    }

    private static void faultThree() {
        says(TERMS, "3 an N out of its bounds (one and the same PLACE).");
        fault(3, LAND + "lane 1 ^1");
        fault(3, LAND + "lane 1 ^001 ;");
        fault(3, LAND + "lane 0 ^0 depth 9;");
        fault(3, "land places 1;lane 0 ^0;");
        fault(3, LAND + "lane 0 1;lane 1 2;lane 2 ^2;");
        fine(3, LAND + "lane 0 1;lane 1 0;");
        fine(3, LAND + "lane 0 1;lane 0 1;");
        fault(3, "land places ^900;");
        fault(3, LAND + "person turns ^100;");
        fine(2, LAND + "wears:999*999;");
    }

    private static void faultFour() {
        says(TERMS, "4 the first TOKEN of a 10th lane, a 9th person; a seventh of not [ ( if.");
        fine(10, LAND + times("lane 0 1;", 9));
        fault(4, LAND + times("lane 0 1;", 9) + "^lane 0 1;");
        fault(4, LAND + times("lane 0 1;", 9) + "^lane");
        fault(4, LAND + times("lane 0 1;", 9) + "rain 1;^lane 0 1;");
        fine(11, LAND + times("lane 0 1;", 9) + "rain 1;");
        fine(9, LAND + times("person turns 0;", 8));
        fault(4, LAND + times("person turns 0;", 8) + "^person turns 0;");
        fault(4, LAND + times("person turns 0;", 8) + "^person");
        fine(18, LAND + times("person turns 0;", 8) + times("lane 0 1;", 9));
        fine(2, LAND + "may:lane+lane+lane+lane+lane+lane+lane+lane+lane+lane=lane;");
        fault(4, LAND + "wears:((((((^(");
        fault(4, LAND + "may:[[[[[[^[");
        fault(4, LAND + "may:not not not not not not ^not");
        fault(4, LAND + "wears:((((((^if");
        fault(4, LAND + "may:[[[[[[^(");
        fault(4, LAND + "may:[[[[[[^not");
        fault(2, LAND + "may:[[[[[[^then");
    }

    private static void feeding() {
        says(2, "Twenty bytes come behind those on THE TAPE, the highest of each int first: how many it has.");
        x = new RutWays();
        // "land places 3;rain 4;lane 2 0;          ": each byte in its place.
        due("feed", x.feed(0x6c616e64, 0x20706c61, 0x63657320, 0x333b7261, 0x696e2034), 20);
        due("feed", x.feed(0x3b6c616e, 0x65203220, 0x303b2020, 0x20202020, 0x20202020), 40);
        due("count(10)", x.count(10), 40);
        due("land(40)", x.land(40), 3);
        due("places", x.count(0), 3);
        due("rain", x.count(5), 4);
        due("one end", x.lane(0, 0), 2);
        due("the other", x.lane(0, 1), 0);
        due("from the beginning again", x.feed(0, 0, 0, 0, 0), 20);
        for (int i = 0; i < 20; i++) {
            // A byte of 255 at each place in turn, all ahead of it blanks.
            int[] words = {0x20202020, 0x20202020, 0x20202020, 0x20202020, 0x20202020};
            words[i / 4] |= 255 << 24 - i % 4 * 8;
            x = new RutWays();
            x.feed(words[0], words[1], words[2], words[3], words[4]);
            due("land(20)", x.land(20), -31);
            due("the place of byte " + i, x.fault(1), i);
        }
        says(2, "-5: it would have more than 900.");
        x = new RutWays();
        for (int i = 1; i <= 45; i++) {
            due("feed", x.feed(0, 0, 0, 0, 0), 20 * i);
        }
        due("the 46th", x.feed(1, 2, 3, 4, 5), -5);
        due("the tape stays", x.count(10), 900);
        due("once more", x.feed(1, 2, 3, 4, 5), -5);
        x.land(0);
        due("when it is empty again", x.feed(1, 2, 3, 4, 5), 20);
    }

    private static void landing() {
        says(3, "The first n bytes of THE TAPE (which is empty then) are THE LAND, it never WENT, nothing can be UNDONE:"
            + " how many LINES (land, too; all stays with a FAULT).");
        in("land places 2;lane 0 1;");
        x.go(0);
        x.go(0);
        Check.feedText(x, LAND + "rain 4;rain 5;rain 6;");
        due("the first bytes alone", x.land(LAND.length() + 14), 3);
        due("rain", x.count(5), 5);
        due("the tape is empty", x.count(10), 0);
        due("it never went", x.count(8), 0);
        due("nothing can be undone", x.count(9), 0);
        due("nothing can be undone", x.undo(1), -3);
        due("count(11)", x.count(11), 3);
        due("the rest isn't there", x.land(1), -3);
        due("no lanes are left", x.lane(0, 0), -2);
        in("land places 3;lane 0 1 depth 2 soft 9;cart at 1 pull 4;person turns 1;person turns 8 back;rain 3;");
        x.go(0);
        x.turn(0);
        int[] counts = {3, 1, 2, 0, 4, 3, 3, 3, 1, 2, 0, 6};
        for (String bad : new String[] {"land places 1;lane 0 0;", "@", "", "land places 2;rain 1", "land places 7;rain 9;rain 10;"}) {
            due("a text with a fault", Check.tell(x, bad) < -30 ? 1 : 0, 1);
            for (int i = 0; i < counts.length; i++) {
                due("count(" + i + ") stays", x.count(i), counts[i]);
            }
            due("the lane stays", x.lane(0, 3), 9);
        }
        due("what can be undone stays", x.undo(2), 0);
        due("cart", x.count(3), 1);
        nothingIsLeft();
        says(3, "-3: n is below 0 or above what there is (THE TAPE stays);");
        x = new RutWays();
        due("land(1)", x.land(1), -3);
        Check.feedText(x, LAND);
        for (int n : new int[] {-1, MIN, 21, 22, 900, 901, MAX}) {
            due("land(" + n + ")", x.land(n), -3);
            due("the tape stays", x.count(10), 20);
        }
        due("land(20)", x.land(20), 1);
        due("land(1)", x.land(1), -3);
        due("land(0): no text at all", x.land(0), -32);
        due("its end", x.fault(1), 0);
        Check.feedText(x, LAND);
        due("land(0)", x.land(0), -32);
        due("the tape is empty then", x.count(10), 0);
        due("all stays", x.count(0), 3);
        says(3, "-30 less the FAULT.");
        x = new RutWays();
        due("1", Check.tell(x, "@"), -31);
        due("2", Check.tell(x, ";"), -32);
        due("3", Check.tell(x, "land places 8;"), -33);
        due("4", Check.tell(x, "land places 2;wears:((((((("), -34);
        due("the tape is empty with a fault", x.count(10), 0);
    }

    /** A text that tells little, behind some that tell all, is as if it were the first. */
    private static void nothingIsLeft() {
        x = new RutWays();
        for (int i = 0; i < 5; i++) {
            Check.tell(x, "land places 3;lane 0 1 depth 5 soft 6 risk 7;cart at 1 pull 8;person turns 1 back;rain 9;wears:3;may:1=2;");
        }
        for (int i = 0; i < 5; i++) {
            due("land", Check.tell(x, "land places 2;lane 1 0;person turns 2;"), 3);
            int[] lane = {1, 0, 0, 0, 0, 1};
            for (int what = 0; what < lane.length; what++) {
                due("lane(0, " + what + ") as told", x.lane(0, what), lane[what]);
            }
            int[] counts = {2, 1, 1, 0, 0, 0, 0, 0, 0, 0, 0, 3};
            for (int what = 0; what < counts.length; what++) {
                due("count(" + what + ") as told", x.count(what), counts[what]);
            }
            due("no law of wearing", x.worn(0), 0);
        }
        for (int i = 0; i < 5; i++) {
            due("laws anew", Check.tell(x, "land places 2;lane 1 0;may:1=1 and 2>1;wears:2+" + i + "-" + i + ";"), 4);
            due("open", x.lane(0, 5), 1);
            due("worn", x.worn(0), 2);
        }
        x = new RutWays();
        for (int i = 1; i <= 6; i++) {
            due("a long law anew", Check.tell(x, "land places 2;lane 1 0;wears:" + times("1-1+", 210) + i + ";"), 3);
            due("worn", x.worn(0), i);
        }
    }

    private static void faulting() {
        says(4, "Of the latest land() that was read, what 0: its FAULT (0), 1: its place (NONE).");
        x = new RutWays();
        due("none was read", x.fault(0), 0);
        due("none was read", x.fault(1), -1);
        Check.tell(x, "  land places 8;");
        due("fault(0)", x.fault(0), 3);
        due("fault(1)", x.fault(1), 14);
        due("one that wasn't read", x.land(1), -3);
        due("fault(0)", x.fault(0), 3);
        due("fault(1)", x.fault(1), 14);
        due("one that wasn't read", x.land(-1), -3);
        due("fault(1)", x.fault(1), 14);
        Check.tell(x, "@");
        due("the latest", x.fault(0), 1);
        due("the latest", x.fault(1), 0);
        Check.tell(x, LAND);
        due("without a fault", x.fault(0), 0);
        due("without a fault", x.fault(1), -1);
        says(4, "NONE for others.");
        for (int what : new int[] {-1, 2, 3, MIN, MAX}) {
            due("fault(" + what + ")", x.fault(what), -1);
        }
        Check.tell(x, "@");
        for (int what : new int[] {-1, 2, MIN, MAX}) {
            due("fault(" + what + ")", x.fault(what), -1);
        }
    }
}
