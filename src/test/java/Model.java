import java.math.BigInteger;
import java.util.ArrayDeque;
import java.util.ArrayList;
import java.util.Deque;
import java.util.HashMap;
import java.util.List;
import java.util.Map;
import java.util.TreeMap;

/** The document once more, in the slowest and plainest way, with the Java library: what RutWays is compared with. */
final class Model {
    /** A law's part. */
    interface Part {
        long tell(Map<String, Long> seen);
    }

    /** A text's first fault. */
    static final class Fault extends Exception {
        private static final long serialVersionUID = 1L;
        final int kind;
        final int place;

        Fault(int kind, int place) {
            this.kind = kind;
            this.place = place;
        }
    }

    static final class Token {
        final String text;
        final int place;
        final boolean bad;

        Token(String text, int place, boolean bad) {
            this.text = text;
            this.place = place;
            this.bad = bad;
        }

        boolean number() {
            return !bad && !text.isEmpty() && Character.isDigit(text.charAt(0));
        }
    }

    static final class Lane {
        int a;
        int b;
        int depth;
        int soft;
        int risk;
    }

    static final class Land {
        int places = 1;
        List<Lane> lanes = new ArrayList<>();
        List<Integer> people = new ArrayList<>();
        List<Boolean> peopleBack = new ArrayList<>();
        int cart;
        int pull;
        int rain;
        int lines;
        Part wears;
        Part may;
    }

    static final class State implements Cloneable {
        int cart;
        int rain;
        int went;
        List<Integer> deep = new ArrayList<>();
        List<Boolean> back = new ArrayList<>();

        State copy() {
            State s = new State();
            s.cart = cart;
            s.rain = rain;
            s.went = went;
            s.deep = new ArrayList<>(deep);
            s.back = new ArrayList<>(back);
            return s;
        }

        int backs() {
            int n = 0;
            for (boolean b : back) {
                n += b ? 1 : 0;
            }
            return n;
        }
    }

    // ---- reading

    static final class Parse {
        private final List<Token> tokens = new ArrayList<>();
        private int at;
        private final Land land = new Land();

        Parse(String text) {
            int i = 0;
            while (i < text.length()) {
                char c = text.charAt(i);
                int j = i + 1;
                if (c == 10 || c == 32) {
                    i++;
                    continue;
                }
                if (c >= 'a' && c <= 'z') {
                    while (j < text.length() && text.charAt(j) >= 'a' && text.charAt(j) <= 'z') {
                        j++;
                    }
                    tokens.add(new Token(text.substring(i, j), i, false));
                } else if (c >= '0' && c <= '9') {
                    while (j < text.length() && text.charAt(j) >= '0' && text.charAt(j) <= '9') {
                        j++;
                    }
                    tokens.add(new Token(text.substring(i, j), i, j - i > 3));
                } else {
                    tokens.add(new Token(text.substring(i, j), i, ";:+-*()[]=<>".indexOf(c) < 0));
                }
                i = j;
            }
            tokens.add(new Token("", text.length(), false));
        }

        Token look() {
            return tokens.get(at);
        }

        boolean is(String text) {
            return !look().bad && look().text.equals(text);
        }

        Fault wrong(int kind) {
            return new Fault(look().bad ? 1 : kind, look().place);
        }

        void want(String text) throws Fault {
            if (!is(text)) {
                throw wrong(2);
            }
            at++;
        }

        boolean opt(String text) {
            if (is(text)) {
                at++;
                return true;
            }
            return false;
        }

        int number(int low, int high, int not) throws Fault {
            if (!look().number()) {
                throw wrong(2);
            }
            int v = Integer.parseInt(look().text);
            if (v < low || v > high || v == not) {
                throw wrong(3);
            }
            at++;
            return v;
        }

        Land all() throws Fault {
            want("land");
            want("places");
            land.places = number(1, 7, -1);
            want(";");
            land.lines = 1;
            while (!(look().text.isEmpty())) {
                line();
                want(";");
                land.lines++;
            }
            return land;
        }

        void line() throws Fault {
            if (is("lane")) {
                if (land.lanes.size() == 9) {
                    throw wrong(4);
                }
                at++;
                Lane lane = new Lane();
                lane.a = number(0, land.places - 1, -1);
                lane.b = number(0, land.places - 1, lane.a);
                while (true) {
                    if (opt("depth")) {
                        lane.depth = number(0, 6, -1);
                    } else if (opt("soft")) {
                        lane.soft = number(0, 9, -1);
                    } else if (opt("risk")) {
                        lane.risk = number(0, 10, -1);
                    } else {
                        break;
                    }
                }
                land.lanes.add(lane);
            } else if (opt("cart")) {
                want("at");
                land.cart = number(0, land.places - 1, -1);
                want("pull");
                land.pull = number(0, 9, -1);
            } else if (is("person")) {
                if (land.people.size() == 8) {
                    throw wrong(4);
                }
                at++;
                want("turns");
                land.people.add(number(0, 8, -1));
                boolean back = false;
                while (opt("back")) {
                    back = true;
                }
                land.peopleBack.add(back);
            } else if (opt("rain")) {
                land.rain = number(0, 9, -1);
            } else if (opt("wears")) {
                want(":");
                land.wears = sum(false, new ArrayDeque<>());
            } else if (opt("may")) {
                want(":");
                land.may = truth(true, new ArrayDeque<>());
            } else {
                throw wrong(2);
            }
        }

        void open(Deque<String> around) throws Fault {
            if (around.size() == 6) {
                throw wrong(4);
            }
            around.push(look().text);
            at++;
        }

        static long kept(long v) {
            return v > 1000000 ? 1000000 : v < -1000000 ? -1000000 : v;
        }

        Part sum(boolean may, Deque<String> around) throws Fault {
            Part left = term(may, around);
            while (is("+") || is("-")) {
                boolean plus = is("+");
                at++;
                Part a = left;
                Part b = term(may, around);
                left = plus ? s -> kept(a.tell(s) + b.tell(s)) : s -> kept(a.tell(s) - b.tell(s));
            }
            return left;
        }

        Part term(boolean may, Deque<String> around) throws Fault {
            Part left = atom(may, around);
            while (opt("*")) {
                Part a = left;
                Part b = atom(may, around);
                left = s -> kept(a.tell(s) * b.tell(s));
            }
            return left;
        }

        Part atom(boolean may, Deque<String> around) throws Fault {
            Token t = look();
            if (t.number()) {
                at++;
                long v = Long.parseLong(t.text);
                return s -> v;
            }
            if (is("(")) {
                open(around);
                Part in = sum(may, around);
                want(")");
                around.pop();
                return in;
            }
            if (is("if")) {
                open(around);
                Part c = truth(may, around);
                want("then");
                Part a = sum(may, around);
                want("else");
                Part b = sum(may, around);
                want("end");
                around.pop();
                return s -> c.tell(s) != 0 ? a.tell(s) : b.tell(s);
            }
            for (String name : new String[] {"lane", "depth", "soft", "pull", "rain", "back"}) {
                if (is(name) && (may || !name.equals("back"))) {
                    at++;
                    return s -> s.get(name);
                }
            }
            throw wrong(2);
        }

        Part truth(boolean may, Deque<String> around) throws Fault {
            Part left = both(may, around);
            while (opt("or")) {
                Part a = left;
                Part b = both(may, around);
                left = s -> a.tell(s) != 0 || b.tell(s) != 0 ? 1 : 0;
            }
            return left;
        }

        Part both(boolean may, Deque<String> around) throws Fault {
            Part left = unit(may, around);
            while (opt("and")) {
                Part a = left;
                Part b = unit(may, around);
                left = s -> a.tell(s) != 0 && b.tell(s) != 0 ? 1 : 0;
            }
            return left;
        }

        Part unit(boolean may, Deque<String> around) throws Fault {
            if (is("not")) {
                open(around);
                Part in = unit(may, around);
                around.pop();
                return s -> in.tell(s) != 0 ? 0 : 1;
            }
            if (is("[")) {
                open(around);
                Part in = truth(may, around);
                want("]");
                around.pop();
                return in;
            }
            Part a = sum(may, around);
            if (opt("=")) {
                Part b = sum(may, around);
                return s -> a.tell(s) == b.tell(s) ? 1 : 0;
            }
            if (opt("<")) {
                Part b = sum(may, around);
                return s -> a.tell(s) < b.tell(s) ? 1 : 0;
            }
            if (opt(">")) {
                Part b = sum(may, around);
                return s -> a.tell(s) > b.tell(s) ? 1 : 0;
            }
            throw wrong(2);
        }
    }

    // ---- what there is

    private final StringBuilder tape = new StringBuilder();
    private Land land = new Land();
    private State now = new State();
    private final Deque<State> undo = new ArrayDeque<>();
    private final Land[] imageLand = new Land[2];
    private final State[] imageState = new State[2];
    private final long[][] trays = new long[4][];
    private final int[] sorts = new int[4];
    private int faultKind = 0;
    private int faultPlace = -1;

    int feed(int a, int b, int c, int d, int e) {
        if (tape.length() > 880) {
            return -5;
        }
        for (int w : new int[] {a, b, c, d, e}) {
            for (int i = 3; i >= 0; i--) {
                tape.append((char) (w >> 8 * i & 255));
            }
        }
        return tape.length();
    }

    int land(int n) {
        if (n < 0 || n > tape.length()) {
            return -3;
        }
        String text = tape.substring(0, n);
        tape.setLength(0);
        try {
            land = new Parse(text).all();
        } catch (Fault f) {
            faultKind = f.kind;
            faultPlace = f.place;
            return -30 - f.kind;
        }
        faultKind = 0;
        faultPlace = -1;
        now = new State();
        now.cart = land.cart;
        now.rain = land.rain;
        for (Lane l : land.lanes) {
            now.deep.add(l.depth);
        }
        now.back.addAll(land.peopleBack);
        undo.clear();
        return land.lines;
    }

    int fault(int what) {
        return what == 0 ? faultKind : what == 1 ? faultPlace : -1;
    }

    private boolean noLane(int l) {
        return l < 0 || l >= land.lanes.size();
    }

    private boolean noPlace(int k) {
        return k < 0 || k >= land.places;
    }

    private Map<String, Long> seen(int l, int depth, int rain, int back) {
        Map<String, Long> m = new HashMap<>();
        m.put("lane", (long) l);
        m.put("depth", (long) depth);
        m.put("soft", (long) land.lanes.get(l).soft);
        m.put("pull", (long) land.pull);
        m.put("rain", (long) rain);
        m.put("back", (long) back);
        return m;
    }

    private boolean may(State s, int l, int depth) {
        return land.may == null ? depth <= land.pull : land.may.tell(seen(l, depth, s.rain, s.backs())) != 0;
    }

    private int wornBy(int l, int depth, int rain) {
        if (land.wears == null) {
            return land.lanes.get(l).soft + rain > 5 ? Math.min(6, depth + 1) : depth;
        }
        long v = land.wears.tell(seen(l, depth, rain, 0));
        return (int) Math.max(0, Math.min(6, v));
    }

    private boolean isOpen(int l) {
        return may(now, l, now.deep.get(l));
    }

    private int to(int l, int from) {
        Lane lane = land.lanes.get(l);
        return lane.a == from ? lane.b : lane.b == from ? lane.a : -1;
    }

    int lane(int l, int what) {
        if (noLane(l)) {
            return -2;
        }
        Lane lane = land.lanes.get(l);
        int[] all = {lane.a, lane.b, now.deep.get(l), lane.soft, lane.risk, isOpen(l) ? 1 : 0};
        return what < 0 || what >= all.length ? -2 : all[what];
    }

    int why(int l) {
        return whyGo(now, l);
    }

    private int whyGo(State s, int l) {
        return noLane(l) ? 1 : to(l, s.cart) < 0 ? 2 : !may(s, l, s.deep.get(l)) ? 3 : 0;
    }

    int worn(int l) {
        return noLane(l) ? -2 : wornBy(l, now.deep.get(l), now.rain);
    }

    int fillings(int l) {
        if (noLane(l)) {
            return -2;
        }
        for (int k = 0; k <= now.deep.get(l); k++) {
            if (may(now, l, now.deep.get(l) - k)) {
                return k;
            }
        }
        return -1;
    }

    // ---- deeds

    private int deed(State s, String kind, long v) {
        int n = (int) v;
        switch (kind) {
            case "go": {
                int why = whyGo(s, n);
                if (why == 0) {
                    s.cart = to(n, s.cart);
                    s.deep.set(n, wornBy(n, s.deep.get(n), s.rain));
                    s.went++;
                }
                return why;
            }
            case "fill":
                if (noLane(n)) {
                    return 1;
                }
                if (s.deep.get(n) == 0) {
                    return 2;
                }
                s.deep.set(n, s.deep.get(n) - 1);
                return 0;
            case "dig":
                if (noLane(n)) {
                    return 1;
                }
                if (s.deep.get(n) == 6) {
                    return 2;
                }
                s.deep.set(n, s.deep.get(n) + 1);
                return 0;
            case "rain":
                if (n < 0 || n > 9) {
                    return 1;
                }
                s.rain = n;
                return 0;
            case "turn":
                if (n < 0 || n >= land.people.size()) {
                    return 1;
                }
                s.back.set(n, !s.back.get(n));
                return 0;
            default:
                s.back = season(s.back);
                return 0;
        }
    }

    private List<Boolean> season(List<Boolean> back) {
        List<Boolean> then = new ArrayList<>();
        for (int p = 0; p < back.size(); p++) {
            int others = 0;
            for (int q = 0; q < back.size(); q++) {
                others += q != p && back.get(q) ? 1 : 0;
            }
            then.add(back.get(p) || others >= land.people.get(p));
        }
        return then;
    }

    private int told(State s, long v) {
        if (v >= 0 && v <= 9) {
            return deed(s, "go", v);
        }
        if (v >= 10 && v <= 19) {
            return deed(s, "fill", v - 10);
        }
        if (v >= 20 && v <= 29) {
            return deed(s, "dig", v - 20);
        }
        if (v >= 30 && v <= 39) {
            return deed(s, "rain", v - 30);
        }
        if (v >= 40 && v <= 49) {
            return deed(s, "turn", v - 40);
        }
        return v == 50 ? deed(s, "season", 0) : 1;
    }

    private void keep(State before) {
        undo.push(before);
        if (undo.size() > 10) {
            undo.removeLast();
        }
    }

    private int one(String kind, int n) {
        State before = now.copy();
        int why = deed(now, kind, n);
        if (why == 0) {
            keep(before);
        }
        return why == 0 ? 0 : -10 - why;
    }

    int go(int l) {
        int c = one("go", l);
        return c != 0 ? c : now.cart;
    }

    int fill(int l) {
        int c = one("fill", l);
        return c != 0 ? c : now.deep.get(l);
    }

    int dig(int l) {
        int c = one("dig", l);
        return c != 0 ? c : now.deep.get(l);
    }

    int turn(int p) {
        int c = one("turn", p);
        return c != 0 ? c : now.back.get(p) ? 1 : 0;
    }

    int seasons(int n) {
        if (n < 1 || n > 99) {
            return -3;
        }
        keep(now.copy());
        for (int i = 0; i < n; i++) {
            deed(now, "season", 0);
        }
        return now.backs();
    }

    int rain(int n) {
        int was = now.rain;
        int c = one("rain", n);
        return c != 0 ? c : was;
    }

    int undo(int n) {
        if (n < 1 || n > 10 || n > undo.size()) {
            return -3;
        }
        for (int i = 0; i < n; i++) {
            now = undo.pop();
        }
        return undo.size();
    }

    private static int sum(State s) {
        int n = 0;
        for (int d : s.deep) {
            n += d;
        }
        return n;
    }

    int judge(int tray, int what) {
        if (tray < 0 || tray > 3 || what < 0 || what > 3) {
            return -2;
        }
        if (trays[tray] == null) {
            return -6;
        }
        State s = now.copy();
        int place = -1;
        int why = 0;
        for (int i = 0; i < trays[tray].length && why == 0; i++) {
            why = told(s, trays[tray][i]);
            if (why != 0) {
                place = i;
            }
        }
        return new int[] {place, why, s.cart, sum(s)}[what];
    }

    int perform(int tray) {
        if (tray < 0 || tray > 3) {
            return -2;
        }
        if (trays[tray] == null) {
            return -6;
        }
        State before = now.copy();
        int n = 0;
        for (long v : trays[tray]) {
            if (told(now, v) != 0) {
                break;
            }
            n++;
        }
        if (n > 0) {
            keep(before);
        }
        return n;
    }

    private int x;

    private int draw() {
        x = 1103515245 * x + 12345;
        return x >>> 16;
    }

    int year(int seed, int times) {
        if (times < 1 || times > 40) {
            return -3;
        }
        State before = now.copy();
        x = seed;
        int n = 0;
        for (int i = 0; i < times; i++) {
            int kind = draw() % 8;
            int why;
            if (kind <= 2) {
                why = deed(now, "go", draw() % 9);
            } else if (kind == 3) {
                why = deed(now, "fill", draw() % 9);
            } else if (kind == 4) {
                why = deed(now, "dig", draw() % 9);
            } else if (kind == 5) {
                why = deed(now, "rain", draw() % 10);
            } else if (kind == 6) {
                why = deed(now, "turn", draw() % 8);
            } else {
                why = deed(now, "season", 0);
            }
            n += why == 0 ? 1 : 0;
        }
        if (n > 0) {
            keep(before);
        }
        return n;
    }

    // ---- coming

    private boolean[] come(int from, boolean[] by) {
        boolean[] there = new boolean[land.places];
        Deque<Integer> todo = new ArrayDeque<>();
        there[from] = true;
        todo.add(from);
        while (!todo.isEmpty()) {
            int p = todo.remove();
            for (int l = 0; l < land.lanes.size(); l++) {
                int q = to(l, p);
                if (by[l] && q >= 0 && !there[q]) {
                    there[q] = true;
                    todo.add(q);
                }
            }
        }
        return there;
    }

    private boolean[] open() {
        boolean[] by = new boolean[land.lanes.size()];
        for (int l = 0; l < by.length; l++) {
            by[l] = isOpen(l);
        }
        return by;
    }

    int reach() {
        int bits = 0;
        boolean[] there = come(now.cart, open());
        for (int p = 0; p < there.length; p++) {
            bits += there[p] ? 1 << p : 0;
        }
        return bits;
    }

    int soonest(int k) {
        if (noPlace(k)) {
            return -2;
        }
        boolean[] by = open();
        boolean[] at = new boolean[land.places];
        at[now.cart] = true;
        for (int n = 0; n <= 7; n++) {
            if (at[k]) {
                return n;
            }
            boolean[] then = new boolean[land.places];
            for (int l = 0; l < by.length; l++) {
                for (int p = 0; p < at.length; p++) {
                    if (by[l] && at[p] && to(l, p) >= 0) {
                        then[to(l, p)] = true;
                    }
                }
            }
            at = then;
        }
        return -1;
    }

    private boolean[][] mayAt;
    private int[][] wearAt;

    private void tables() {
        int n = land.lanes.size();
        mayAt = new boolean[n][7];
        wearAt = new int[n][7];
        for (int l = 0; l < n; l++) {
            for (int d = 0; d < 7; d++) {
                mayAt[l][d] = may(now, l, d);
                wearAt[l][d] = wornBy(l, d, now.rain);
            }
        }
    }

    /** Goes by all rows of n lanes, in order; answers how many end in k, and keeps the first in row. */
    private int go(int place, int[] deep, int k, int n, List<Integer> so, List<List<Integer>> first) {
        if (n == 0) {
            if (place == k && first.isEmpty()) {
                first.add(new ArrayList<>(so));
            }
            return place == k ? 1 : 0;
        }
        int sum = 0;
        for (int l = 0; l < deep.length; l++) {
            int q = to(l, place);
            if (q < 0 || !mayAt[l][deep[l]]) {
                continue;
            }
            int was = deep[l];
            deep[l] = wearAt[l][was];
            so.add(l);
            sum += go(q, deep, k, n - 1, so, first);
            so.remove(so.size() - 1);
            deep[l] = was;
        }
        return sum;
    }

    private int[] deeps() {
        int[] deep = new int[now.deep.size()];
        for (int l = 0; l < deep.length; l++) {
            deep[l] = now.deep.get(l);
        }
        return deep;
    }

    int rows(int k, int n) {
        if (noPlace(k)) {
            return -2;
        }
        if (n < 0 || n > 6) {
            return -3;
        }
        tables();
        return go(now.cart, deeps(), k, n, new ArrayList<>(), new ArrayList<>());
    }

    int way(int k, int i) {
        if (noPlace(k)) {
            return -2;
        }
        if (i < 0) {
            return -3;
        }
        if (k == now.cart) {
            return -1;
        }
        tables();
        for (int n = 1; n <= 6; n++) {
            List<List<Integer>> first = new ArrayList<>();
            if (go(now.cart, deeps(), k, n, new ArrayList<>(), first) > 0) {
                return i < n ? first.get(0).get(i) : -1;
            }
        }
        return -1;
    }

    int toAndFro(int l) {
        if (noLane(l)) {
            return -2;
        }
        int n = 0;
        int d = now.deep.get(l);
        while (n < 100 && may(now, l, d)) {
            n++;
            d = wornBy(l, d, now.rain);
        }
        return n;
    }

    // ---- fewest

    private List<Integer> bestTrail;
    private int bestCost;

    private void trails(int place, int k, List<Integer> so, int cost, int[] fill) {
        if (place == k && (bestTrail == null || cost < bestCost
                || cost == bestCost && so.size() < bestTrail.size()
                || cost == bestCost && so.size() == bestTrail.size() && so.toString().compareTo(bestTrail.toString()) < 0)) {
            bestTrail = new ArrayList<>(so);
            bestCost = cost;
        }
        for (int l = 0; l < fill.length; l++) {
            if (fill[l] >= 0 && to(l, place) >= 0 && !so.contains(l)) {
                so.add(l);
                trails(to(l, place), k, so, cost + fill[l], fill);
                so.remove(so.size() - 1);
            }
        }
    }

    private void cheap(int k) {
        int[] fill = new int[land.lanes.size()];
        for (int l = 0; l < fill.length; l++) {
            fill[l] = fillings(l);
        }
        bestTrail = null;
        bestCost = 0;
        trails(now.cart, k, new ArrayList<>(), 0, fill);
    }

    int cheapest(int k, int what) {
        if (noPlace(k) || what < 0 || what > 1) {
            return -2;
        }
        cheap(k);
        return bestTrail == null ? -1 : what == 0 ? bestCost : bestTrail.size();
    }

    int cheapBy(int k, int i) {
        if (noPlace(k)) {
            return -2;
        }
        if (i < 0) {
            return -3;
        }
        cheap(k);
        return bestTrail == null || i >= bestTrail.size() ? -1 : bestTrail.get(i);
    }

    int joins(int what) {
        if (what < 0 || what > 1) {
            return -2;
        }
        Map<Integer, int[]> found = new TreeMap<>();
        for (int set = 0; set < 1 << land.lanes.size(); set++) {
            boolean[] by = new boolean[land.lanes.size()];
            int cost = 0;
            boolean can = true;
            for (int l = 0; l < by.length; l++) {
                by[l] = (set >> l & 1) == 1;
                if (by[l]) {
                    can &= fillings(l) >= 0;
                    cost += fillings(l);
                }
            }
            for (boolean b : come(land.places - 1, by)) {
                can &= b;
            }
            if (can) {
                found.putIfAbsent(cost * 100 + Integer.bitCount(set), new int[] {cost, set});
            }
        }
        for (int[] v : found.values()) {
            return v[what];
        }
        return -1;
    }

    int shuts(int k, int what) {
        if (noPlace(k) || what < 0 || what > 1) {
            return -2;
        }
        for (int n = 0; n <= land.lanes.size(); n++) {
            for (int set = 0; set < 1 << land.lanes.size(); set++) {
                boolean[] by = open();
                for (int l = 0; l < by.length; l++) {
                    by[l] &= (set >> l & 1) == 0;
                }
                if (Integer.bitCount(set) == n && !come(now.cart, by)[k]) {
                    return what == 0 ? n : set;
                }
            }
        }
        return -1;
    }

    // ---- turning back

    private static int bits(List<Boolean> back) {
        int b = 0;
        for (int p = 0; p < back.size(); p++) {
            b += back.get(p) ? 1 << p : 0;
        }
        return b;
    }

    int turning(int what) {
        if (what < 0 || what > 1) {
            return -2;
        }
        List<Boolean> b = now.back;
        int n = 0;
        while (!season(b).equals(b)) {
            b = season(b);
            n++;
        }
        return what == 0 ? bits(b) : n;
    }

    int when(int p) {
        if (p < 0 || p >= land.people.size()) {
            return -2;
        }
        List<Boolean> b = now.back;
        if (b.get(p)) {
            return -1;
        }
        for (int n = 1; n < 20; n++) {
            b = season(b);
            if (b.get(p)) {
                return n;
            }
        }
        return -1;
    }

    int starts(int what) {
        if (what < 0 || what > 1) {
            return -2;
        }
        int size = land.people.size();
        for (int n = 0; n <= size; n++) {
            for (int set = 0; set < 1 << size; set++) {
                if (Integer.bitCount(set) != n || (set & bits(now.back)) != 0) {
                    continue;
                }
                List<Boolean> b = new ArrayList<>(now.back);
                for (int p = 0; p < size; p++) {
                    b.set(p, b.get(p) || (set >> p & 1) == 1);
                }
                for (int i = 0; i < 20; i++) {
                    b = season(b);
                }
                if (!b.contains(false)) {
                    return what == 0 ? n : set;
                }
            }
        }
        return -99;
    }

    // ---- worn

    int rains(int tray) {
        if (tray < 0 || tray > 3) {
            return -2;
        }
        if (trays[tray] == null) {
            return -6;
        }
        if (trays[tray].length < 1 || trays[tray].length > 8) {
            return -4;
        }
        for (long v : trays[tray]) {
            if (v < 0 || v >= 10L * land.lanes.size() || v % 10 > 6) {
                return -3;
            }
        }
        int bits = 0;
        for (int r = 0; r <= 9; r++) {
            boolean all = true;
            for (long v : trays[tray]) {
                int l = (int) v / 10;
                all &= wornBy(l, now.deep.get(l), r) == v % 10;
            }
            bits += all ? 1 << r : 0;
        }
        return bits;
    }

    int attempt(int tray) {
        int set = rains(tray);
        if (set < 0) {
            return set;
        }
        if (set == 0) {
            return -1;
        }
        int best = -1;
        int bestMost = 0;
        for (int l = 0; l < land.lanes.size(); l++) {
            Map<Integer, Integer> by = new HashMap<>();
            for (int r = 0; r <= 9; r++) {
                if ((set >> r & 1) == 1) {
                    by.merge(wornBy(l, now.deep.get(l), r), 1, Integer::sum);
                }
            }
            int most = 0;
            for (int v : by.values()) {
                most = Math.max(most, v);
            }
            if (best < 0 || most < bestMost) {
                best = l;
                bestMost = most;
            }
        }
        return best;
    }

    // ---- by turns

    private boolean winsFrom(int place, boolean[] left) {
        for (int l = 0; l < left.length; l++) {
            if (left[l] && to(l, place) >= 0) {
                left[l] = false;
                boolean otherWins = winsFrom(to(l, place), left);
                left[l] = true;
                if (!otherWins) {
                    return true;
                }
            }
        }
        return false;
    }

    int wins() {
        return winsFrom(now.cart, open()) ? 1 : 0;
    }

    int best() {
        boolean[] left = open();
        for (int l = 0; l < left.length; l++) {
            if (left[l] && to(l, now.cart) >= 0) {
                left[l] = false;
                if (!winsFrom(to(l, now.cart), left)) {
                    return l;
                }
                left[l] = true;
            }
        }
        return -1;
    }

    // ---- through

    private static final class Fraction implements Comparable<Fraction> {
        final BigInteger above;
        final BigInteger below;

        Fraction(BigInteger a, BigInteger b) {
            BigInteger g = a.gcd(b);
            above = a.divide(g);
            below = b.divide(g);
        }

        Fraction times(int tenths) {
            return new Fraction(above.multiply(BigInteger.valueOf(tenths)), below.multiply(BigInteger.TEN));
        }

        @Override
        public int compareTo(Fraction o) {
            return above.multiply(o.below).compareTo(o.above.multiply(below));
        }
    }

    private Fraction through(int place, int k, int n, boolean[] by, Map<Integer, Fraction> known) {
        if (place == k) {
            return new Fraction(BigInteger.ONE, BigInteger.ONE);
        }
        if (known.containsKey(place * 10 + n)) {
            return known.get(place * 10 + n);
        }
        Fraction most = new Fraction(BigInteger.ZERO, BigInteger.ONE);
        for (int l = 0; n > 0 && l < by.length; l++) {
            if (by[l] && to(l, place) >= 0) {
                Fraction f = through(to(l, place), k, n - 1, by, known).times(10 - land.lanes.get(l).risk);
                most = f.compareTo(most) > 0 ? f : most;
            }
        }
        known.put(place * 10 + n, most);
        return most;
    }

    int chance(int k, int n, int what) {
        if (noPlace(k) || what < 0 || what > 1) {
            return -2;
        }
        if (n < 0 || n > 7) {
            return -3;
        }
        Fraction f = through(now.cart, k, n, open(), new HashMap<>());
        return (what == 0 ? f.above : f.below).intValueExact();
    }

    int bestBy(int k, int n) {
        if (noPlace(k)) {
            return -2;
        }
        if (n < 0 || n > 7) {
            return -3;
        }
        Fraction most = through(now.cart, k, n, open(), new HashMap<>());
        if (now.cart == k || most.above.signum() == 0) {
            return -1;
        }
        for (int l = 0; l < land.lanes.size(); l++) {
            if (isOpen(l) && to(l, now.cart) >= 0) {
                Fraction f = through(to(l, now.cart), k, n - 1, open(), new HashMap<>()).times(10 - land.lanes.get(l).risk);
                if (f.compareTo(most) == 0) {
                    return l;
                }
            }
        }
        return -99;
    }

    // ---- trays, images

    int numbers(int tray, int sort, int n) {
        if (tray < 0 || tray > 3 || sort < 0 || sort > 3) {
            return -2;
        }
        if (n < 0 || n > 40) {
            return -3;
        }
        trays[tray] = new long[n];
        sorts[tray] = sort;
        return 0;
    }

    long write(int tray, int i, long v) {
        if (tray < 0 || tray > 3) {
            return -2;
        }
        if (trays[tray] == null) {
            return -6;
        }
        if (i < 0 || i >= trays[tray].length) {
            return -7;
        }
        int cut = 64 - (8 << sorts[tray]);
        trays[tray][i] = v << cut >> cut;
        return trays[tray][i];
    }

    int lists(int tray, int k) {
        if (tray < 0 || tray > 3 || noPlace(k)) {
            return -2;
        }
        if (trays[tray] == null) {
            return -6;
        }
        cheap(k);
        if (bestTrail == null) {
            return -5;
        }
        int n = 0;
        while (n < trays[tray].length && n < bestTrail.size()) {
            trays[tray][n] = bestTrail.get(n);
            n++;
        }
        return n;
    }

    int image(int i) {
        if (i < 0 || i > 1) {
            return -2;
        }
        imageLand[i] = land;
        imageState[i] = now.copy();
        return 0;
    }

    int restore(int i) {
        if (i < 0 || i > 1) {
            return -2;
        }
        if (imageLand[i] == null) {
            return -5;
        }
        land = imageLand[i];
        now = imageState[i].copy();
        undo.clear();
        return 0;
    }

    int count(int what) {
        int[] all = {land.places, land.lanes.size(), land.people.size(), now.cart, land.pull, now.rain, bits(now.back),
            sum(now), now.went, undo.size(), tape.length(), land.lines};
        return what < 0 || what >= all.length ? -1 : all[what];
    }

    int lanesNow() {
        return land.lanes.size();
    }

    int placesNow() {
        return land.places;
    }
}
