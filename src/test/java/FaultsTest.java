/** Texts with a fault, and where it is; texts at the edge that have none (promises 3 and 4). */
public final class FaultsTest {
    private static final String LAND = "land places 3;";

    private static void fault(int kind, int place, String text) {
        RutWays x = new RutWays();
        Check.due("land of '" + text + "'", Check.tell(x, text), -30 - kind);
        Check.due("fault(0) of '" + text + "'", x.fault(0), kind);
        Check.due("fault(1) of '" + text + "'", x.fault(1), place);
        Check.due("the land stays, behind '" + text + "'", x.count(0), 1);
    }

    /** A fault where the sign ^ is in the text, which is taken out. */
    private static void faultAt(int kind, String marked) {
        int place = marked.indexOf('^');
        fault(kind, place, marked.substring(0, place) + marked.substring(place + 1));
    }

    private static void fine(int lines, String text) {
        RutWays x = new RutWays();
        Check.due("land of '" + text + "'", Check.tell(x, text), lines);
        Check.due("fault(0)", x.fault(0), 0);
        Check.due("fault(1)", x.fault(1), -1);
    }

    private static String times(String text, int n) {
        StringBuilder s = new StringBuilder();
        for (int i = 0; i < n; i++) {
            s.append(text);
        }
        return s.toString();
    }

    public static void main(String[] args) {
        tokens();
        words();
        places();
        bounds();
        tooMany();
        fineOnes();
        Check.end();
    }

    private static void tokens() {
        for (int c = 0; c < 256; c++) {
            boolean blank = c == 10 || c == 32;
            boolean token = c >= 'a' && c <= 'z' || c >= '0' && c <= '9' || ";:+-*()[]=<>".indexOf((char) c) >= 0;
            String text = LAND + (char) c;
            if (blank) {
                fine(1, text);
            } else {
                fault(token ? 2 : 1, LAND.length(), text);
            }
        }
        faultAt(1, "^Land places 3;");
        faultAt(1, "land^\tplaces 3;");
        faultAt(1, "land places ^0003;");
        faultAt(1, "land places ^1234567890123;");
        faultAt(1, LAND + "^1000");
        faultAt(1, LAND + "rain ^0000;");
        faultAt(1, LAND + "wears: 1 + ^2000;");
        faultAt(2, LAND + "wears: 1 ^2 @;");
        faultAt(2, LAND + "rain 1^a @");
        faultAt(2, LAND + "^landplaces 3;");
        faultAt(2, LAND + "^ra in 3;");
    }

    /** Each word that is written otherwise can't stand where it could. */
    private static void words() {
        String text = "land places 2;lane 0 1 depth 1 soft 1 risk 1;cart at 0 pull 1;person turns 1 back;rain 1;"
            + "wears:if not 1=1 and 1=1 or 1=1 then lane+depth+soft else pull+rain end;may:back=0;";
        fine(7, text);
        int at = 0;
        while (at < text.length()) {
            int to = at;
            while (to < text.length() && Character.isLetter(text.charAt(to))) {
                to++;
            }
            if (to > at) {
                String word = text.substring(at, to);
                String[] others = {"x" + word.substring(1), word.substring(0, word.length() - 1) + "x", word + "x", "x" + word,
                    word.substring(1), word.substring(0, word.length() - 1)};
                for (String other : others) {
                    fault(2, at, text.substring(0, at) + other + text.substring(to));
                }
            }
            at = to + 1;
        }
    }

    private static void places() {
        faultAt(2, "^");
        faultAt(2, "  \n ^");
        faultAt(2, "land places 3   ^");
        faultAt(2, "land ^3;");
        faultAt(2, "land places ^;");
        faultAt(2, "land places 3 ^4;");
        faultAt(2, "land places 3;^;");
        faultAt(2, "^rain 3;land places 3;");
        faultAt(2, LAND + "^land places 3;");
        faultAt(2, LAND + "lane 0 1 ^2;");
        faultAt(2, LAND + "lane ^a 1;");
        faultAt(2, LAND + "lane 0 1 depth ^soft 1;");
        faultAt(2, LAND + "lane 0 1 depth 2 ^pull 1;");
        faultAt(2, LAND + "lane 0 1 depth 2^");
        faultAt(2, LAND + "cart at 0 ^;");
        faultAt(2, LAND + "cart ^pull 1 at 0;");
        faultAt(2, LAND + "cart at 0 pull 1 ^pull 1;");
        faultAt(2, LAND + "person turns 1 ^turns 2;");
        faultAt(2, LAND + "person ^back;");
        faultAt(2, LAND + "rain ^;");
        faultAt(2, LAND + "rain 1 ^2;");
        faultAt(2, LAND + "wears ^1;");
        faultAt(2, LAND + "wears: ^back;");
        faultAt(2, LAND + "wears: if ^back = 1 then 1 else 2 end;");
        faultAt(2, LAND + "wears: ^risk;");
        faultAt(2, LAND + "wears: ^-1;");
        faultAt(2, LAND + "wears: 1 +^;");
        faultAt(2, LAND + "wears: 1 ^= 1;");
        faultAt(2, LAND + "wears: ^not 1;");
        faultAt(2, LAND + "wears: ^[1];");
        faultAt(2, LAND + "wears: (1^;");
        faultAt(2, LAND + "wears: (1 ^];");
        faultAt(2, LAND + "wears: 1^);");
        faultAt(2, LAND + "wears: if 1 ^then 2 else 3 end;");
        faultAt(2, LAND + "wears: if 1 = 1 ^2 else 3 end;");
        faultAt(2, LAND + "wears: if 1 = 1 then 2 ^end;");
        faultAt(2, LAND + "wears: if 1 = 1 then 2 else 3^;");
        faultAt(2, LAND + "wears: if 1 = 1 then 2 else 3 ^");
        faultAt(2, LAND + "may: depth^;");
        faultAt(2, LAND + "may: 1 = 2 ^= 3;");
        faultAt(2, LAND + "may: (1 ^= 2);");
        faultAt(2, LAND + "may: [1 = 2^;");
        faultAt(2, LAND + "may: [1 = 2^);");
        faultAt(2, LAND + "may: [1 = 2] ^= 1;");
        faultAt(2, LAND + "may: [1 = 2] ^+ 1 = 1;");
        faultAt(2, LAND + "may: not^;");
        faultAt(2, LAND + "may: 1 = ^not 1;");
        faultAt(2, LAND + "may: 1 = 1 and^;");
        faultAt(2, LAND + "may: 1 = 1 or ^and 1 = 1;");
        faultAt(2, LAND + "may: 1 = 1 ^not 1 = 1;");
        faultAt(2, LAND + "may: ^: 1 = 1;");
        faultAt(2, LAND + "may: 1 < ^= 2;");
    }

    private static void bounds() {
        faultAt(3, "land places ^0;");
        faultAt(3, "land places ^8;");
        faultAt(3, LAND + "lane ^3 0;");
        faultAt(3, LAND + "lane 0 ^3;");
        faultAt(3, LAND + "lane 2 ^2;");
        faultAt(3, LAND + "lane 2 ^002");
        faultAt(3, LAND + "lane 0 1 depth ^7;");
        faultAt(3, LAND + "lane 0 1 soft ^10;");
        faultAt(3, LAND + "lane 0 1 risk ^11;");
        faultAt(3, LAND + "cart at ^3 pull 0;");
        faultAt(3, LAND + "cart at 0 pull ^10;");
        faultAt(3, LAND + "person turns ^9;");
        faultAt(3, LAND + "rain ^10;");
        faultAt(3, LAND + "rain ^999;");
        faultAt(3, "land places 1;lane 0 ^0;");
    }

    private static void tooMany() {
        faultAt(4, LAND + times("lane 0 1;", 9) + "^lane x;");
        faultAt(2, LAND + times("lane 0 1;", 9) + "^lanes x;");
        faultAt(4, LAND + times("person turns 0;", 8) + "^person;");
        faultAt(4, LAND + "wears: " + times("(", 6) + "^(1;");
        faultAt(4, LAND + "wears: " + times("(", 6) + "^if;");
        faultAt(4, LAND + "may: " + times("not ", 6) + "^not;");
        faultAt(4, LAND + "may: " + times("[", 6) + "^[;");
        faultAt(4, LAND + "may: not not not [[[ ^(1);");
        faultAt(4, LAND + "may: not not not [[[ 1 = ^(1);");
        faultAt(4, LAND + "may: not not not [[[ 1 = 1 and ^not 1 = 1;");
        faultAt(2, LAND + "wears: " + times("(", 6) + "^[1;");
        faultAt(2, LAND + "wears: " + times("(", 6) + "1 ^(1;");
        faultAt(2, LAND + "wears: " + times("(", 6) + "^not 1;");
        faultAt(1, LAND + "wears: " + times("(", 6) + "^#;");
        faultAt(4, LAND + "wears: if [not [not (^if 1 = 1 then 1 else (1) end) = 1]] then 1 else 2 end;");
        faultAt(4, LAND + "wears: (((((if ^(1) = 1 then 1 else 1 end)))));");
        faultAt(4, LAND + "wears: (((((if 1 = 1 then ^(1) else 1 end)))));");
        faultAt(4, LAND + "wears: (((((if 1 = 1 then 1 else ^(1) end)))));");
        faultAt(4, LAND + "wears: (((((if 1 = 1 then 1 else 2 * ^if 1 = 1 then 1 else 1 end end)))));");
        faultAt(4, LAND + "wears: if not not not not not 1 = ^(1) then 1 else 2 end;");
    }

    private static void fineOnes() {
        fine(1, "land places 1;");
        fine(1, "\nland\nplaces\n7\n;\n");
        fine(10, LAND + times("lane 2 1 risk 10 soft 9 depth 6;", 9));
        fine(9, LAND + times("person turns 8;", 8));
        fine(2, LAND + "cart at 2 pull 9;");
        fine(2, LAND + "rain 009;");
        fine(2, LAND + "wears:999;");
        fine(2, LAND + "may:" + times("not ", 6) + "1=1;");
        fine(2, LAND + "may:" + times("[", 6) + "1=1" + times("]", 6) + ";");
        fine(2, LAND + "may:" + times("not ", 6) + "1=1 and not not 2=2 or [[not (1)=1]];");
        fine(2, LAND + "wears:(((if not 1=1 then (1) else ((1)+(2)) end)));");
        fine(2, LAND + "wears:(((((if 1=1 then 1 else 1 end))))) + (1) + if (1)=1 then (1) else (1) end;");
        fine(2, LAND + "may:if back = back then lane else depth end < soft + pull * rain;");
        fine(2, LAND + "wears:" + times("1+", 439) + "1;");
        fine(2, LAND + "may:" + times("1=1or ", 140) + "1=1;");
        fine(148, LAND + times("rain0;", 147));
        fine(148, LAND + times("rain0;", 147) + "    ");
    }
}
