import java.util.ArrayList;
import java.util.List;
import java.util.Random;

/** Long runs of calls, drawn by fixed seeds, answered by RutWays and by the plain Model. */
public final class CompareTest {
    private static final int RUNS = 300;
    private static final int CALLS = 511;

    private final Random random;
    private RutWays x = new RutWays();
    private Model m = new Model();
    private final List<String> log = new ArrayList<>();
    private int calls;

    private CompareTest(long seed) {
        random = new Random(seed);
    }

    public static void main(String[] args) {
        int runs = args.length > 0 ? Integer.parseInt(args[0]) : RUNS;
        long first = args.length > 1 ? Long.parseLong(args[1]) : 1;
        for (long seed = first; seed < first + runs && Check.wrongSoFar() == 0; seed++) {
            new CompareTest(seed).run(seed);
        }
        Check.end();
    }

    private void run(long seed) {
        int changes = 1 + random.nextInt(4);
        int until = 60 + random.nextInt(CALLS - 60);
        if (random.nextInt(12) > 0) {
            tellLand();
        }
        while (calls < until && Check.wrongSoFar() == 0) {
            if (random.nextInt(until) < changes && calls < CALLS - 60) {
                tellLand();
            } else {
                oneCall();
            }
        }
        for (int what = -1; what <= 12 && calls < CALLS; what++) {
            same("count(" + what + ")", x.count(what), m.count(what));
        }
        if (Check.wrongSoFar() != 0) {
            System.out.println("seed " + seed + ", the calls:");
            for (String call : log) {
                System.out.println("  " + call);
            }
        }
    }

    private void same(String call, long got, long want) {
        calls++;
        log.add(call + " -> " + got);
        Check.due(call, got, want);
    }

    // ---- texts

    private int n(int below) {
        return random.nextInt(below);
    }

    private String pick(String... of) {
        return of[n(of.length)];
    }

    private String sum(boolean may, int deep) {
        StringBuilder s = new StringBuilder(term(may, deep));
        while (n(3) == 0) {
            s.append(pick(" + ", " - ", "+", "-")).append(term(may, deep));
        }
        return s.toString();
    }

    private String term(boolean may, int deep) {
        StringBuilder s = new StringBuilder(atom(may, deep));
        while (n(4) == 0) {
            s.append(pick(" * ", "*")).append(atom(may, deep));
        }
        return s.toString();
    }

    private String atom(boolean may, int deep) {
        if (deep > 0 && n(4) == 0) {
            return n(2) == 0 ? "(" + sum(may, deep - 1) + ")"
                : "if " + truth(may, deep - 1) + " then " + sum(may, deep - 1) + " else " + sum(may, deep - 1) + " end";
        }
        switch (n(may ? 8 : 7)) {
            case 0:
                return "" + n(12);
            case 1:
                return n(8) == 0 ? "" + n(1000) : "" + n(7);
            case 2:
                return "lane";
            case 3:
                return "depth";
            case 4:
                return "soft";
            case 5:
                return "pull";
            case 6:
                return "rain";
            default:
                return "back";
        }
    }

    private String truth(boolean may, int deep) {
        StringBuilder s = new StringBuilder(unit(may, deep));
        while (n(3) == 0) {
            s.append(pick(" or ", " and ")).append(unit(may, deep));
        }
        return s.toString();
    }

    private String unit(boolean may, int deep) {
        if (deep > 0 && n(4) == 0) {
            return n(2) == 0 ? "not " + unit(may, deep - 1) : "[" + truth(may, deep - 1) + "]";
        }
        return sum(may, deep) + pick(" = ", " < ", " > ", "<", ">") + sum(may, deep);
    }

    /** Some of not [ ( if within one another: a seventh is a fault. */
    private String nested(boolean truth, int deep) {
        if (deep == 0) {
            return truth ? "depth < 3" : "depth";
        }
        if (!truth) {
            return n(2) == 0 ? "(" + nested(false, deep - 1) + ") - 1"
                : "if " + nested(true, deep - 1) + " then (1) else depth + 1 end";
        }
        switch (n(4)) {
            case 0:
                return "not " + nested(true, deep - 1);
            case 1:
                return "[rain > 3 or " + nested(true, deep - 1) + "]";
            case 2:
                return nested(false, deep) + " > 1";
            default:
                return "not (2) = 1 and [" + nested(true, deep - 1) + "]";
        }
    }

    private String laneLine(int places) {
        int a = n(places);
        int b = (a + 1 + n(places - 1)) % places;
        StringBuilder s = new StringBuilder("lane " + a + " " + b);
        while (n(4) > 0) {
            s.append(pick(" depth " + n(7), " depth " + n(4), " soft " + n(10), " risk " + n(11)));
        }
        return s.append(";").toString();
    }

    private String landText() {
        int places = n(12) == 0 ? 1 : 2 + n(6);
        StringBuilder s = new StringBuilder("land places " + places + ";");
        List<String> lines = new ArrayList<>();
        int lanes = places == 1 ? 0 : n(3) == 0 ? 9 : n(10);
        for (int i = 0; i < lanes; i++) {
            lines.add(laneLine(places));
        }
        int people = n(3) == 0 ? 8 : n(9);
        for (int i = 0; i < people; i++) {
            lines.add("person turns " + (n(2) == 0 ? n(9) : n(4)) + (n(5) == 0 ? " back" : "") + ";");
        }
        for (int i = n(3); i > 0; i--) {
            lines.add("cart at " + n(places) + " pull " + n(10) + ";");
        }
        for (int i = n(3); i > 0; i--) {
            lines.add("rain " + n(10) + ";");
        }
        for (int i = n(5) - 2; i > 0; i--) {
            lines.add("wears:" + (n(8) == 0 ? nested(false, 5 + n(3)) : sum(false, n(5))) + ";");
        }
        for (int i = n(5) - 2; i > 0; i--) {
            lines.add("may:" + (n(8) == 0 ? nested(true, 5 + n(3)) : truth(true, n(5))) + ";");
        }
        while (!lines.isEmpty()) {
            s.append(n(9) == 0 ? "\n " : "").append(lines.remove(n(2) == 0 ? 0 : n(lines.size())));
        }
        return s.toString();
    }

    private String spoil(String text) {
        StringBuilder s = new StringBuilder(text);
        for (int i = 1 + n(2); i > 0 && s.length() > 0; i--) {
            int at = n(s.length());
            switch (n(8)) {
                case 0:
                    s.deleteCharAt(at);
                    break;
                case 4:
                    for (int k = n(10); k >= 0; k--) {
                        s.insert(s.indexOf(";", at) + 1, pick("lane 0 1;", "lane 1 0 depth 1;"));
                    }
                    break;
                case 5:
                    for (int k = n(10); k >= 0; k--) {
                        s.insert(s.indexOf(";", at) + 1, "person turns " + n(10) + ";");
                    }
                    break;
                case 6:
                    while (at < s.length() && !Character.isDigit(s.charAt(at))) {
                        at++;
                    }
                    s.insert(at, n(3) == 0 ? "00" : n(2) == 0 ? "0" : "" + n(100));
                    break;
                case 1:
                    s.insert(at, pick("not ", "[", "]", "(", ")", "if ", " end ", ";", "0", "9", "lane 0 1;", "land ", "back ", "*", "-", "=", " and ", "person turns 1;"));
                    break;
                case 2:
                    s.setCharAt(at, (char) n(256));
                    break;
                case 3:
                    s.setCharAt(at, (char) (32 + n(96)));
                    break;
                default:
                    s.setLength(at);
            }
        }
        return s.toString();
    }

    private void tellLand() {
        String text = landText();
        if (n(4) == 0) {
            text = spoil(text);
        }
        if (text.length() > 900) {
            text = text.substring(0, 900);
        }
        if (calls + text.length() / 20 + 6 > CALLS) {
            return;
        }
        for (int i = 0; i < text.length(); i += 20) {
            feed(Check.wordAt(text, i), Check.wordAt(text, i + 4), Check.wordAt(text, i + 8),
                Check.wordAt(text, i + 12), Check.wordAt(text, i + 16));
        }
        int length = n(20) == 0 ? n(text.length() + 30) : text.length();
        log.add("text: " + text);
        same("land(" + length + ")", x.land(length), m.land(length));
        same("fault(0)", x.fault(0), m.fault(0));
        same("fault(1)", x.fault(1), m.fault(1));
    }

    private void feed(int a, int b, int c, int d, int e) {
        same("feed", x.feed(a, b, c, d, e), m.feed(a, b, c, d, e));
    }

    // ---- calls

    /** A number from 0 to below, now and then out of it. */
    private int around(int below) {
        if (n(25) == 0) {
            int[] odd = {-1, below, below + 1, Integer.MIN_VALUE, Integer.MAX_VALUE, 31, 32, 64, -2, 100};
            return odd[n(odd.length)];
        }
        return n(Math.max(1, below));
    }

    private int lane() {
        return around(m.lanesNow());
    }

    private int place() {
        return around(m.placesNow());
    }

    private void oneCall() {
        int which = n(10);
        if (which < 4) {
            deed();
        } else if (which < 8) {
            question();
        } else {
            rest();
        }
    }

    private void deed() {
        int a;
        switch (n(11)) {
            case 0:
            case 1:
                a = lane();
                same("go(" + a + ")", x.go(a), m.go(a));
                break;
            case 2:
                a = lane();
                same("fill(" + a + ")", x.fill(a), m.fill(a));
                break;
            case 3:
                a = lane();
                same("dig(" + a + ")", x.dig(a), m.dig(a));
                break;
            case 4:
                a = around(8);
                same("turn(" + a + ")", x.turn(a), m.turn(a));
                break;
            case 5:
                a = n(3) > 0 ? 1 : around(101);
                same("seasons(" + a + ")", x.seasons(a), m.seasons(a));
                break;
            case 6:
                a = around(10);
                same("rain(" + a + ")", x.rain(a), m.rain(a));
                break;
            case 7:
                a = n(2) == 0 ? 1 : around(11);
                same("undo(" + a + ")", x.undo(a), m.undo(a));
                break;
            case 8:
                a = around(4);
                same("perform(" + a + ")", x.perform(a), m.perform(a));
                break;
            case 9:
                a = around(4);
                int what = around(4);
                same("judge(" + a + ", " + what + ")", x.judge(a, what), m.judge(a, what));
                break;
            default:
                a = random.nextInt();
                int times = n(2) == 0 ? 1 + n(5) : around(42);
                same("year(" + a + ", " + times + ")", x.year(a, times), m.year(a, times));
        }
    }

    private void question() {
        int a = place();
        int b;
        switch (n(21)) {
            case 0:
                a = lane();
                b = around(6);
                same("lane(" + a + ", " + b + ")", x.lane(a, b), m.lane(a, b));
                break;
            case 1:
                a = lane();
                same("why(" + a + ")", x.why(a), m.why(a));
                break;
            case 2:
                a = lane();
                same("worn(" + a + ")", x.worn(a), m.worn(a));
                break;
            case 3:
                a = lane();
                same("fillings(" + a + ")", x.fillings(a), m.fillings(a));
                break;
            case 4:
                same("reach()", x.reach(), m.reach());
                break;
            case 5:
                same("soonest(" + a + ")", x.soonest(a), m.soonest(a));
                break;
            case 6:
                b = around(7);
                same("rows(" + a + ", " + b + ")", x.rows(a, b), m.rows(a, b));
                break;
            case 7:
                b = around(4);
                same("way(" + a + ", " + b + ")", x.way(a, b), m.way(a, b));
                break;
            case 8:
                a = lane();
                same("toAndFro(" + a + ")", x.toAndFro(a), m.toAndFro(a));
                break;
            case 9:
                b = around(2);
                same("cheapest(" + a + ", " + b + ")", x.cheapest(a, b), m.cheapest(a, b));
                break;
            case 10:
                b = around(4);
                same("cheapBy(" + a + ", " + b + ")", x.cheapBy(a, b), m.cheapBy(a, b));
                break;
            case 11:
                b = around(2);
                same("joins(" + b + ")", x.joins(b), m.joins(b));
                break;
            case 12:
                b = around(2);
                same("shuts(" + a + ", " + b + ")", x.shuts(a, b), m.shuts(a, b));
                break;
            case 13:
                b = around(2);
                same("turning(" + b + ")", x.turning(b), m.turning(b));
                break;
            case 14:
                b = around(8);
                same("when(" + b + ")", x.when(b), m.when(b));
                break;
            case 15:
                b = around(2);
                same("starts(" + b + ")", x.starts(b), m.starts(b));
                break;
            case 16:
                same("wins()", x.wins(), m.wins());
                break;
            case 17:
                same("best()", x.best(), m.best());
                break;
            case 18:
                b = around(8);
                int what = around(2);
                same("chance(" + a + ", " + b + ", " + what + ")", x.chance(a, b, what), m.chance(a, b, what));
                break;
            case 19:
                b = around(8);
                same("bestBy(" + a + ", " + b + ")", x.bestBy(a, b), m.bestBy(a, b));
                break;
            default:
                wornTray();
        }
    }

    private void numbers(int tray, int sort, int size) {
        same("numbers(" + tray + ", " + sort + ", " + size + ")", x.numbers(tray, sort, size), m.numbers(tray, sort, size));
    }

    private void write(int tray, int i, long v) {
        same("write(" + tray + ", " + i + ", " + v + ")", x.write(tray, i, v), m.write(tray, i, v));
    }

    private void wornTray() {
        int tray = n(4);
        int size = n(8) == 0 ? n(11) : 1 + n(2);
        numbers(tray, n(4), size);
        for (int i = 0; i < size; i++) {
            int l = n(Math.max(1, m.lanesNow()));
            int depth = n(2) == 0 ? Math.max(0, m.worn(l)) : n(7);
            write(tray, i, n(30) == 0 ? random.nextLong() : n(30) == 0 ? n(100) : 10L * l + depth);
        }
        same("rains(" + tray + ")", x.rains(tray), m.rains(tray));
        same("attempt(" + tray + ")", x.attempt(tray), m.attempt(tray));
    }

    private void rest() {
        int tray = around(4);
        int a;
        switch (n(9)) {
            case 0:
                int size = n(2) == 0 ? n(9) : around(42);
                numbers(tray, around(4), size);
                for (int i = 0; i < Math.min(size, 12); i++) {
                    write(tray, i, n(20) == 0 ? n(60) : n(3) == 0 ? n(51) : n(9));
                }
                break;
            case 1:
                write(tray, around(9), n(3) == 0 ? random.nextLong() : n(300) - 20);
                break;
            case 2:
                int k = place();
                same("lists(" + tray + ", " + k + ")", x.lists(tray, k), m.lists(tray, k));
                break;
            case 3:
                a = around(2);
                if (m.lanesNow() == 0 && n(5) > 0) {
                    break;
                }
                same("image(" + a + ")", x.image(a), m.image(a));
                break;
            case 4:
                a = around(2);
                same("restore(" + a + ")", x.restore(a), m.restore(a));
                break;
            case 5:
                a = around(2);
                same("fault(" + a + ")", x.fault(a), m.fault(a));
                break;
            case 6:
                a = n(2) == 0 ? around(20) : around(910);
                if (n(6) == 0) {
                    same("land(" + a + ")", x.land(a), m.land(a));
                }
                break;
            default:
                a = around(12);
                same("count(" + a + ")", x.count(a), m.count(a));
        }
    }
}
