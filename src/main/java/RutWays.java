import java.util.Arrays;

/** Ruts are what was decided: a land told as a text, the cart that goes in it, and what can be asked of both. */
public final class RutWays {
    /** There is none. */
    public static final int NONE = -1;

    private static final int NO_SUCH = -2;
    private static final int NO_NUMBER = -3;
    private static final int TOO_MANY = -4;
    private static final int NOT_NOW = -5;
    private static final int MISSING = -6;
    private static final int NO_INDEX = -7;
    private static final int BELOW_WHY = -10;
    private static final int BELOW_FAULT = -30;

    private static final int MOST_BYTES = 900;
    private static final int FED_AT_ONCE = 20;
    private static final int MOST_PLACES = 7;
    private static final int MOST_LANES = 9;
    private static final int MOST_PEOPLE = 8;
    private static final int MOST_DEEP = 6;
    private static final int MOST_SOFT = 9;
    private static final int MOST_RISK = 10;
    private static final int MOST_PULL = 9;
    private static final int MOST_RAIN = 9;
    private static final int MOST_UNDONE = 10;
    private static final int MOST_TO_AND_FRO = 100;
    private static final int MOST_SEASONS = 99;
    private static final int MOST_TIMES = 40;
    private static final int MOST_ROW = 6;
    private static final int MOST_THROUGH = 7;
    private static final int MOST_WORN = 8;
    private static final int MOST_NUMBERS = 40;
    private static final int MOST_SORT = 3;
    private static final int TRAYS = 4;
    private static final int IMAGES = 2;

    private static final int DEED_GO = 0;
    private static final int DEED_FILL = 10;
    private static final int DEED_DIG = 20;
    private static final int DEED_RAIN = 30;
    private static final int DEED_TURN = 40;
    private static final int DEED_SEASON = 50;

    private static final int NO_SUCH_ONE = 1;
    private static final int NOT_THERE = 2;
    private static final int BY_LAW = 3;

    private final byte[] tape;
    private int fed;
    private final Reader reader;
    private int faultKind;
    private int faultPlace;
    private final Land[] lands;
    private final Course now;
    private final Course other;
    private final History history;
    private final Course[] pictures;
    private int picturesMade;
    private final Tray[] trays;
    private final Paths paths;
    private final RowCount rowCount;
    private final Duel duel;
    private final Odds odds;

    public RutWays() {
        tape = new byte[MOST_BYTES];
        reader = new Reader();
        faultPlace = NONE;
        // One for the land that is, one for each image, one to read a new text into.
        lands = new Land[IMAGES + 2];
        for (int i = 0; i < lands.length; i++) {
            lands[i] = new Land();
        }
        now = new Course(lands[0]);
        other = new Course(lands[0]);
        history = new History(lands[0]);
        pictures = new Course[IMAGES];
        for (int i = 0; i < pictures.length; i++) {
            pictures[i] = new Course(lands[0]);
        }
        trays = new Tray[TRAYS];
        for (int i = 0; i < trays.length; i++) {
            trays[i] = new Tray();
        }
        paths = new Paths();
        rowCount = new RowCount();
        duel = new Duel();
        odds = new Odds();
    }

    // ---- the land

    public int feed(int a, int b, int c, int d, int e) {
        if (fed + FED_AT_ONCE > MOST_BYTES) {
            return NOT_NOW;
        }
        putOnTape(a);
        putOnTape(b);
        putOnTape(c);
        putOnTape(d);
        putOnTape(e);
        return fed;
    }

    private void putOnTape(int word) {
        for (int shift = 24; shift >= 0; shift -= 8) {
            if (fed >= 0 && fed < tape.length) {
                tape[fed] = (byte) (word >> shift);
                fed++;
            }
        }
    }

    public int land(int n) {
        if (n < 0 || n > fed) {
            return NO_NUMBER;
        }
        fed = 0;
        Land told = spareLand();
        faultKind = reader.readInto(told, tape, n);
        faultPlace = reader.placeOfFault();
        if (faultKind != 0) {
            return BELOW_FAULT - faultKind;
        }
        now.beginIn(told);
        history.forgetAll();
        return told.lines;
    }

    /** A land that neither stands now nor in an image: what is read into it can fail without a loss. */
    private Land spareLand() {
        Land spare = lands[0];
        for (int i = 0; i < lands.length; i++) {
            boolean used = lands[i] == now.land;
            for (int k = 0; k < pictures.length; k++) {
                used = used || pictures[k] != null && lands[i] == pictures[k].land;
            }
            if (!used) {
                spare = lands[i];
            }
        }
        return spare;
    }

    public int fault(int what) {
        switch (what) {
            case 0:
                return faultKind;
            case 1:
                return faultPlace;
            default:
                return NONE;
        }
    }

    public int lane(int l, int what) {
        if (!now.land.hasLane(l)) {
            return NO_SUCH;
        }
        switch (what) {
            case 0:
                return now.land.one[l];
            case 1:
                return now.land.two[l];
            case 2:
                return now.deep[l];
            case 3:
                return now.land.soft[l];
            case 4:
                return now.land.risk[l];
            case 5:
                return now.isOpen(l) ? 1 : 0;
            default:
                return NO_SUCH;
        }
    }

    public int why(int l) {
        return now.whyNoGoing(l);
    }

    public int worn(int l) {
        if (!now.land.hasLane(l)) {
            return NO_SUCH;
        }
        return now.land.wornFrom(l, now.deep[l], now.rain);
    }

    public int fillings(int l) {
        if (!now.land.hasLane(l)) {
            return NO_SUCH;
        }
        return now.fillingsOf(l);
    }

    // ---- deeds

    public int go(int l) {
        int why = doOne(DEED_GO, l);
        return why != 0 ? BELOW_WHY - why : now.cart;
    }

    public int fill(int l) {
        int why = doOne(DEED_FILL, l);
        return why != 0 ? BELOW_WHY - why : now.depthOf(l);
    }

    public int dig(int l) {
        int why = doOne(DEED_DIG, l);
        return why != 0 ? BELOW_WHY - why : now.depthOf(l);
    }

    public int turn(int p) {
        int why = doOne(DEED_TURN, p);
        return why != 0 ? BELOW_WHY - why : now.back >> p & 1;
    }

    public int seasons(int n) {
        if (n < 1 || n > MOST_SEASONS) {
            return NO_NUMBER;
        }
        history.keep(now);
        for (int i = 0; i < n; i++) {
            now.tryDeed(DEED_SEASON);
        }
        return Integer.bitCount(now.back);
    }

    public int rain(int n) {
        int was = now.rain;
        int why = doOne(DEED_RAIN, n);
        return why != 0 ? BELOW_WHY - why : was;
    }

    /** Why one deed of a sort can't be (0: it is done, and can be undone). */
    private int doOne(int sort, int number) {
        if (number < 0 || number > 9) {
            return NO_SUCH_ONE;
        }
        other.takeOver(now);
        int why = now.tryDeed(sort + number);
        if (why == 0) {
            history.keep(other);
        }
        return why;
    }

    public int undo(int n) {
        if (n < 1 || n > MOST_UNDONE || n > history.kept()) {
            return NO_NUMBER;
        }
        history.bringBack(n, now);
        return history.kept();
    }

    public int judge(int tray, int what) {
        Tray deeds = trayOf(tray);
        if (deeds == null || what < 0 || what > 3) {
            return NO_SUCH;
        }
        if (deeds.missing) {
            return MISSING;
        }
        other.takeOver(now);
        int done = 0;
        int why = 0;
        for (int i = 0; i < deeds.size && why == 0; i++) {
            why = other.tryDeed(deeds.numberAt(i));
            if (why == 0) {
                done++;
            }
        }
        switch (what) {
            case 0:
                return why == 0 ? NONE : done;
            case 1:
                return why;
            case 2:
                return other.cart;
            default:
                return other.allDepths();
        }
    }

    public int perform(int tray) {
        Tray deeds = trayOf(tray);
        if (deeds == null) {
            return NO_SUCH;
        }
        if (deeds.missing) {
            return MISSING;
        }
        other.takeOver(now);
        int done = 0;
        while (done < deeds.size && now.tryDeed(deeds.numberAt(done)) == 0) {
            done++;
        }
        if (done > 0) {
            history.keep(other);
        }
        return done;
    }

    public int year(int seed, int times) {
        if (times < 1 || times > MOST_TIMES) {
            return NO_NUMBER;
        }
        other.takeOver(now);
        int x = seed;
        int done = 0;
        for (int i = 0; i < times; i++) {
            x = drawBehind(x);
            int kind = (x >>> 16) % 8;
            int deed = DEED_SEASON;
            if (kind != 7) {
                x = drawBehind(x);
                deed = drawnDeed(kind, x >>> 16);
            }
            if (now.tryDeed(deed) == 0) {
                done++;
            }
        }
        if (done > 0) {
            history.keep(other);
        }
        return done;
    }

    private static int drawBehind(int x) {
        return 1103515245 * x + 12345;
    }

    private static int drawnDeed(int kind, int draw) {
        switch (kind) {
            case 3:
                return DEED_FILL + draw % 9;
            case 4:
                return DEED_DIG + draw % 9;
            case 5:
                return DEED_RAIN + draw % 10;
            case 6:
                return DEED_TURN + draw % 8;
            default:
                return DEED_GO + draw % 9;
        }
    }

    // ---- coming

    public int reach() {
        return now.land.comingFrom(now.cart, now.openLanes());
    }

    public int soonest(int k) {
        if (!now.land.hasPlace(k)) {
            return NO_SUCH;
        }
        paths.measureOpen(now, k);
        return paths.farFrom(now.cart);
    }

    public int rows(int k, int n) {
        if (!now.land.hasPlace(k)) {
            return NO_SUCH;
        }
        if (n < 0 || n > MOST_ROW) {
            return NO_NUMBER;
        }
        paths.measureOpen(now, k);
        return rowCount.countRows(now, paths, k, n);
    }

    public int way(int k, int i) {
        if (!now.land.hasPlace(k)) {
            return NO_SUCH;
        }
        if (i < 0) {
            return NO_NUMBER;
        }
        // A shortest row goes by no lane twice, so that its own wearing doesn't matter.
        paths.measureOpen(now, k);
        return paths.laneOnWay(now.land, now.cart, i);
    }

    public int toAndFro(int l) {
        if (!now.land.hasLane(l)) {
            return NO_SUCH;
        }
        int depth = now.deep[l];
        int times = 0;
        while (times < MOST_TO_AND_FRO && now.land.mayGo(l, depth, now)) {
            depth = now.land.wornFrom(l, depth, now.rain);
            times++;
        }
        return times;
    }

    // ---- fewest

    public int cheapest(int k, int what) {
        if (!now.land.hasPlace(k) || what < 0 || what > 1) {
            return NO_SUCH;
        }
        paths.measureFillings(now, k);
        int far = paths.farFrom(now.cart);
        if (far == NONE) {
            return NONE;
        }
        return what == 0 ? Paths.fillingsIn(far) : Paths.lanesIn(far);
    }

    public int cheapBy(int k, int i) {
        if (!now.land.hasPlace(k)) {
            return NO_SUCH;
        }
        if (i < 0) {
            return NO_NUMBER;
        }
        paths.measureFillings(now, k);
        return paths.laneOnWay(now.land, now.cart, i);
    }

    public int joins(int what) {
        if (what < 0 || what > 1) {
            return NO_SUCH;
        }
        paths.weighFillings(now);
        int set = paths.leastJoining(now.land);
        if (set == NONE) {
            return NONE;
        }
        return what == 0 ? Paths.fillingsIn(paths.weightOfAll(now.land, set)) : set;
    }

    public int shuts(int k, int what) {
        if (!now.land.hasPlace(k) || what < 0 || what > 1) {
            return NO_SUCH;
        }
        int set = leastShutting(k);
        if (set == NONE) {
            return NONE;
        }
        return what == 0 ? Integer.bitCount(set) : set;
    }

    private int leastShutting(int k) {
        int open = now.openLanes();
        int least = NONE;
        for (int set = 0; set < 1 << now.land.lanes; set++) {
            boolean fewer = least == NONE || Integer.bitCount(set) < Integer.bitCount(least);
            if (fewer && (now.land.comingFrom(now.cart, open & ~set) >> k & 1) == 0) {
                least = set;
            }
        }
        return least;
    }

    // ---- turning back

    public int turning(int what) {
        if (what < 0 || what > 1) {
            return NO_SUCH;
        }
        return what == 0 ? now.land.backInTheEnd(now.back) : seasonsOfTurning();
    }

    private int seasonsOfTurning() {
        int back = now.back;
        for (int season = 0; season <= MOST_PEOPLE; season++) {
            int then = now.land.backBehindSeason(back);
            if (then == back) {
                return season;
            }
            back = then;
        }
        return MOST_PEOPLE;
    }

    public int when(int p) {
        if (p < 0 || p >= now.land.people) {
            return NO_SUCH;
        }
        if ((now.back >> p & 1) != 0) {
            return NONE;
        }
        int back = now.back;
        for (int season = 1; season <= MOST_PEOPLE; season++) {
            back = now.land.backBehindSeason(back);
            if ((back >> p & 1) != 0) {
                return season;
            }
        }
        return NONE;
    }

    public int starts(int what) {
        if (what < 0 || what > 1) {
            return NO_SUCH;
        }
        int set = leastStarting();
        return what == 0 ? Integer.bitCount(set) : set;
    }

    private int leastStarting() {
        int all = (1 << now.land.people) - 1;
        int least = all & ~now.back;
        for (int set = 0; set <= all; set++) {
            boolean fewer = (set & now.back) == 0 && Integer.bitCount(set) < Integer.bitCount(least);
            if (fewer && now.land.backInTheEnd(now.back | set) == all) {
                least = set;
            }
        }
        return least;
    }

    // ---- worn

    public int rains(int tray) {
        Tray told = trayOf(tray);
        int refusal = whyNotWorn(told);
        return refusal != 0 ? refusal : rainsBy(told);
    }

    public int attempt(int tray) {
        Tray told = trayOf(tray);
        int refusal = whyNotWorn(told);
        if (refusal != 0) {
            return refusal;
        }
        int set = rainsBy(told);
        int first = NONE;
        int least = 0;
        for (int l = 0; set != 0 && l < now.land.lanes; l++) {
            int most = mostAlike(l, set);
            if (first == NONE || most < least) {
                first = l;
                least = most;
            }
        }
        return first;
    }

    /** The refusal of a tray as one of worn ruts (0: it is one). */
    private int whyNotWorn(Tray told) {
        if (told == null) {
            return NO_SUCH;
        }
        if (told.missing) {
            return MISSING;
        }
        if (told.size < 1 || told.size > MOST_WORN) {
            return TOO_MANY;
        }
        for (int i = 0; i < told.size; i++) {
            long v = told.numberAt(i);
            if (v < 0 || v / 10 >= now.land.lanes || v % 10 > MOST_DEEP) {
                return NO_NUMBER;
            }
        }
        return 0;
    }

    private int rainsBy(Tray told) {
        int set = 0;
        for (int rain = 0; rain <= MOST_RAIN; rain++) {
            boolean fits = true;
            for (int i = 0; i < told.size && fits; i++) {
                long v = told.numberAt(i);
                fits = wornByRain((int) (v / 10), rain) == v % 10;
            }
            if (fits) {
                set |= 1 << rain;
            }
        }
        return set;
    }

    /** The greatest number of these rains by which a lane's rut would be as deep. */
    private int mostAlike(int l, int set) {
        // One count a depth, four bits each: there are ten rains at most.
        int counts = 0;
        for (int rain = 0; rain <= MOST_RAIN; rain++) {
            if ((set >> rain & 1) != 0) {
                counts += 1 << 4 * wornByRain(l, rain);
            }
        }
        int most = 0;
        for (int depth = 0; depth <= MOST_DEEP; depth++) {
            most = Math.max(most, counts >> 4 * depth & 15);
        }
        return most;
    }

    private int wornByRain(int l, int rain) {
        return now.land.wornFrom(l, now.depthOf(l), rain);
    }

    // ---- by turns

    public int wins() {
        return duel.firstWinning(now) == NONE ? 0 : 1;
    }

    public int best() {
        return duel.firstWinning(now);
    }

    // ---- through

    public int chance(int k, int n, int what) {
        if (!now.land.hasPlace(k) || what < 0 || what > 1) {
            return NO_SUCH;
        }
        if (n < 0 || n > MOST_THROUGH) {
            return NO_NUMBER;
        }
        odds.weigh(now, k, n);
        int above = odds.aboveAt(now.cart);
        int below = odds.belowAll();
        int common = Odds.commonOf(above, below);
        if (common < 1) {
            return NONE;
        }
        return what == 0 ? above / common : below / common;
    }

    public int bestBy(int k, int n) {
        if (!now.land.hasPlace(k)) {
            return NO_SUCH;
        }
        if (n < 0 || n > MOST_THROUGH) {
            return NO_NUMBER;
        }
        if (now.cart == k) {
            return NONE;
        }
        return odds.firstLikeliest(now, k, n);
    }

    // ---- trays, images

    private Tray trayOf(int tray) {
        return tray < 0 || tray >= trays.length ? null : trays[tray];
    }

    public int numbers(int tray, int sort, int n) {
        Tray one = trayOf(tray);
        if (one == null || sort < 0 || sort > MOST_SORT) {
            return NO_SUCH;
        }
        if (n < 0 || n > MOST_NUMBERS) {
            return NO_NUMBER;
        }
        one.makeNew(sort, n);
        return 0;
    }

    public long write(int tray, int i, long v) {
        Tray one = trayOf(tray);
        if (one == null) {
            return NO_SUCH;
        }
        if (one.missing) {
            return MISSING;
        }
        if (i < 0 || i >= one.size) {
            return NO_INDEX;
        }
        one.put(i, v);
        return one.numberAt(i);
    }

    public int lists(int tray, int k) {
        Tray one = trayOf(tray);
        if (one == null || !now.land.hasPlace(k)) {
            return NO_SUCH;
        }
        if (one.missing) {
            return MISSING;
        }
        paths.measureFillings(now, k);
        int far = paths.farFrom(now.cart);
        if (far == NONE) {
            return NOT_NOW;
        }
        int put = Math.min(Paths.lanesIn(far), one.size);
        for (int i = 0; i < put; i++) {
            one.put(i, paths.laneOnWay(now.land, now.cart, i));
        }
        return put;
    }

    private Course pictureOf(int i) {
        return i < 0 || i >= pictures.length ? null : pictures[i];
    }

    public int image(int i) {
        Course picture = pictureOf(i);
        if (picture == null) {
            return NO_SUCH;
        }
        picture.takeOver(now);
        picturesMade |= 1 << i;
        return 0;
    }

    public int restore(int i) {
        Course picture = pictureOf(i);
        if (picture == null) {
            return NO_SUCH;
        }
        if ((picturesMade >> i & 1) == 0) {
            return NOT_NOW;
        }
        now.takeOver(picture);
        history.forgetAll();
        return 0;
    }

    public int count(int what) {
        switch (what) {
            case 0:
                return now.land.places;
            case 1:
                return now.land.lanes;
            case 2:
                return now.land.people;
            case 3:
                return now.cart;
            case 4:
                return now.land.pull;
            case 5:
                return now.rain;
            case 6:
                return now.back;
            case 7:
                return now.allDepths();
            case 8:
                return now.went;
            case 9:
                return history.kept();
            case 10:
                return fed;
            case 11:
                return now.land.lines;
            default:
                return NONE;
        }
    }

    /** What a text told; it doesn't change once it is read, so that images share it. */
    private static final class Land {
        int places;
        int lanes;
        int people;
        int lines;
        int cart;
        int pull;
        int rain;
        int back;
        final int[] one = new int[MOST_LANES];
        final int[] two = new int[MOST_LANES];
        final int[] deep = new int[MOST_LANES];
        final int[] soft = new int[MOST_LANES];
        final int[] risk = new int[MOST_LANES];
        final int[] turns = new int[MOST_PEOPLE];
        final Laws laws = new Laws();

        Land() {
            places = 1;
        }

        void makeEmpty() {
            places = 1;
            lanes = 0;
            people = 0;
            lines = 0;
            cart = 0;
            pull = 0;
            rain = 0;
            back = 0;
            Arrays.fill(deep, 0);
            Arrays.fill(soft, 0);
            Arrays.fill(risk, 0);
            laws.makeEmpty();
        }

        boolean hasPlace(int k) {
            return k >= 0 && k < places && k < MOST_PLACES;
        }

        boolean hasLane(int l) {
            return l >= 0 && l < lanes && l < MOST_LANES;
        }

        /** The other end of a lane, from a place (NONE: it doesn't lead on from there). */
        int otherEnd(int l, int from) {
            if (!hasLane(l)) {
                return NONE;
            }
            if (one[l] == from) {
                return two[l];
            }
            return two[l] == from ? one[l] : NONE;
        }

        boolean mayGo(int l, int depth, Course course) {
            if (!hasLane(l)) {
                return false;
            }
            if (!laws.hasLaw(Laws.MAY)) {
                return depth <= pull;
            }
            laws.look(l, depth, soft[l], pull, course.rain, Integer.bitCount(course.back));
            return laws.tell(Laws.MAY) != 0;
        }

        int wornFrom(int l, int depth, int byRain) {
            if (!hasLane(l)) {
                return depth;
            }
            if (!laws.hasLaw(Laws.WEARS)) {
                return soft[l] + byRain > 5 ? Math.min(MOST_DEEP, depth + 1) : depth;
            }
            laws.look(l, depth, soft[l], pull, byRain, 0);
            return Math.max(0, Math.min(MOST_DEEP, laws.tell(Laws.WEARS)));
        }

        /** Places to which one can come from a place by lanes, both as bits. */
        int comingFrom(int start, int set) {
            int come = 1 << start;
            for (int round = 0; round < MOST_PLACES; round++) {
                int before = come;
                for (int l = 0; l < lanes && l < MOST_LANES; l++) {
                    int ends = 1 << one[l] | 1 << two[l];
                    if ((set >> l & 1) != 0 && (come & ends) != 0) {
                        come |= ends;
                    }
                }
                if (come == before) {
                    break;
                }
            }
            return come;
        }

        int backBehindSeason(int ahead) {
            int others = Integer.bitCount(ahead);
            int then = ahead;
            for (int p = 0; p < people && p < MOST_PEOPLE; p++) {
                if (others >= turns[p]) {
                    then |= 1 << p;
                }
            }
            return then;
        }

        int backInTheEnd(int ahead) {
            int then = ahead;
            for (int season = 0; season < MOST_PEOPLE; season++) {
                then = backBehindSeason(then);
            }
            return then;
        }
    }

    /** The laws wears and may, each a stretch of steps on a stack. */
    private static final class Laws {
        static final int WEARS = 0;
        static final int MAY = 1;

        private static final int STEP = 1000;
        static final int NUMBER = 0;
        static final int SEEN = 1;
        static final int PLUS = 2;
        static final int MINUS = 3;
        static final int TIMES = 4;
        static final int LIKE = 5;
        static final int LESS = 6;
        static final int MORE = 7;
        static final int NOT = 8;
        static final int AND = 9;
        static final int OR = 10;
        static final int CHOOSE = 11;

        static final int SEES_LANE = 0;
        static final int SEES_DEPTH = 1;
        static final int SEES_SOFT = 2;
        static final int SEES_PULL = 3;
        static final int SEES_RAIN = 4;
        static final int SEES_BACK = 5;

        private static final int LAWS = 2;
        private static final int SIGHTS = 6;
        private static final int MOST_KEPT = 1000000;
        // Seven levels, of which each holds at most five while it reads on.
        private static final int MOST_STACKED = 64;

        private final int[] steps = new int[MOST_BYTES];
        private int size;
        private final int[] from = new int[LAWS];
        private final int[] to = new int[LAWS];
        private final int[] seen = new int[SIGHTS];
        private final int[] stack = new int[MOST_STACKED];
        private int top;

        void makeEmpty() {
            size = 0;
            Arrays.fill(from, 0);
            Arrays.fill(to, 0);
        }

        int stepsNow() {
            return size;
        }

        void addStep(int kind, int number) {
            if (size >= 0 && size < steps.length) {
                steps[size] = kind * STEP + number;
                size++;
            }
        }

        /** The steps from one on are a law. */
        void enact(int law, int first) {
            if (law >= 0 && law < LAWS) {
                from[law] = first;
                to[law] = size;
            }
        }

        boolean hasLaw(int law) {
            return law >= 0 && law < LAWS && to[law] > from[law];
        }

        void look(int lane, int depth, int soft, int pull, int rain, int back) {
            seen[SEES_LANE] = lane;
            seen[SEES_DEPTH] = depth;
            seen[SEES_SOFT] = soft;
            seen[SEES_PULL] = pull;
            seen[SEES_RAIN] = rain;
            seen[SEES_BACK] = back;
        }

        /** What a law tells of that at which it looks; a truth is 1 or 0. */
        int tell(int law) {
            top = 0;
            int first = law < 0 || law >= LAWS ? 0 : Math.max(0, from[law]);
            int behind = law < 0 || law >= LAWS ? 0 : Math.min(steps.length, to[law]);
            for (int i = first; i < behind; i++) {
                int kind = steps[i] / STEP;
                int number = steps[i] % STEP;
                if (kind == NUMBER) {
                    push(number);
                } else if (kind == SEEN) {
                    push(number >= 0 && number < seen.length ? seen[number] : 0);
                } else if (kind == NOT) {
                    push(pop() == 0 ? 1 : 0);
                } else if (kind == CHOOSE) {
                    int otherwise = pop();
                    int then = pop();
                    push(pop() != 0 ? then : otherwise);
                } else {
                    int right = pop();
                    int left = pop();
                    push(kind < LIKE ? reckon(kind, left, right) : compare(kind, left, right));
                }
            }
            return pop();
        }

        private static int reckon(int kind, int left, int right) {
            long sum = kind == PLUS ? (long) left + right : kind == MINUS ? (long) left - right : (long) left * right;
            if (sum > MOST_KEPT) {
                return MOST_KEPT;
            }
            return sum < -MOST_KEPT ? -MOST_KEPT : (int) sum;
        }

        private static int compare(int kind, int left, int right) {
            switch (kind) {
                case LIKE:
                    return left == right ? 1 : 0;
                case LESS:
                    return left < right ? 1 : 0;
                case MORE:
                    return left > right ? 1 : 0;
                case AND:
                    return left & right;
                default:
                    return left | right;
            }
        }

        private void push(int v) {
            if (top >= 0 && top < stack.length) {
                stack[top] = v;
                top++;
            }
        }

        private int pop() {
            if (top < 1 || top > stack.length) {
                return 0;
            }
            top--;
            return stack[top];
        }
    }

    /** A text's words, numbers and signs, one behind the other. */
    private static final class Tokens {
        static final int END = 0;
        static final int BAD = 1;
        static final int NUMBER = 2;
        static final int STRANGE = 3;
        static final int LAND = 128;
        static final int PLACES = 129;
        static final int LANE = 130;
        static final int DEPTH = 131;
        static final int SOFT = 132;
        static final int RISK = 133;
        static final int CART = 134;
        static final int AT = 135;
        static final int PULL = 136;
        static final int PERSON = 137;
        static final int TURNS = 138;
        static final int BACK = 139;
        static final int RAIN = 140;
        static final int WEARS = 141;
        static final int MAY = 142;
        static final int IF = 143;
        static final int THEN = 144;
        static final int ELSE = 145;
        static final int END_IF = 146;
        static final int NOT = 147;
        static final int AND = 148;
        static final int OR = 149;

        // In the order of their kinds, a blank behind each.
        private static final String WORDS = "land places lane depth soft risk cart at pull person turns back rain wears may if then else end not and or ";
        private static final String SIGNS = ";:+-*()[]=<>";
        private static final int MOST_DIGITS = 3;

        /** What the token is: one of the kinds above, or a sign by its own byte. */
        int kind;
        /** Where it begins. */
        int start;
        /** What a number is. */
        int value;
        private byte[] text;
        private int length;
        // Each token of the text: its kind, where it begins, its value, in 8, 10 and 10 bits.
        private final int[] all = new int[MOST_BYTES + 1];
        private int size;
        private int next;

        /** The first token of a text; the others follow by next. */
        void begin(byte[] bytes, int n) {
            text = bytes;
            length = bytes == null ? 0 : Math.min(n, bytes.length);
            size = 0;
            int at = 0;
            for (int round = 0; round < MOST_BYTES && at < length; round++) {
                int first = byteAt(at);
                if (first == 10 || first == 32) {
                    at++;
                } else if (isLetter(first)) {
                    at = takeWord(at);
                } else if (isDigit(first)) {
                    at = takeDigits(at);
                } else {
                    keep(SIGNS.indexOf((char) first) >= 0 ? first : BAD, at, 0);
                    at++;
                }
            }
            keep(END, length, 0);
            next = 0;
            advance();
        }

        void advance() {
            if (next >= 0 && next < size && next < all.length) {
                kind = all[next] & 255;
                start = all[next] >> 8 & 1023;
                value = all[next] >> 18;
                next++;
            }
        }

        private void keep(int newKind, int at, int number) {
            if (size >= 0 && size < all.length) {
                all[size] = number << 18 | at << 8 | newKind;
                size++;
            }
        }

        private int takeWord(int from) {
            int to = from + 1;
            while (to < length && isLetter(byteAt(to))) {
                to++;
            }
            int found = STRANGE;
            int begin = 0;
            int word = LAND;
            for (int i = 0; i < WORDS.length(); i++) {
                if (WORDS.charAt(i) == ' ') {
                    if (i - begin == to - from && isSame(begin, i, from)) {
                        found = word;
                    }
                    word++;
                    begin = i + 1;
                }
            }
            keep(found, from, 0);
            return to;
        }

        private boolean isSame(int begin, int end, int at) {
            for (int i = Math.max(0, begin); i < end && i < WORDS.length(); i++) {
                if (WORDS.charAt(i) != byteAt(at + i - begin)) {
                    return false;
                }
            }
            return true;
        }

        private int takeDigits(int from) {
            int to = from;
            int number = 0;
            while (to < length && isDigit(byteAt(to))) {
                if (to - from < MOST_DIGITS) {
                    number = number * 10 + byteAt(to) - '0';
                }
                to++;
            }
            boolean fits = to - from <= MOST_DIGITS;
            keep(fits ? NUMBER : BAD, from, fits ? number : 0);
            return to;
        }

        private int byteAt(int i) {
            return text == null || i < 0 || i >= length || i >= text.length ? NONE : text[i] & 255;
        }

        private static boolean isLetter(int c) {
            return c >= 'a' && c <= 'z';
        }

        private static boolean isDigit(int c) {
            return c >= '0' && c <= '9';
        }
    }

    /** Reads a text into a land, or tells its first fault. */
    private static final class Reader {
        private static final int NO_TOKEN = 1;
        private static final int MISPLACED = 2;
        private static final int OUT_OF_BOUNDS = 3;
        private static final int ONE_TOO_MANY = 4;
        private static final int MOST_WITHIN = 6;

        private final Tokens tokens = new Tokens();
        private Land land;
        private int fault;
        private int place;
        private int last;
        private boolean inMay;

        /** The fault (0: none, the land is as the text tells it). */
        int readInto(Land told, byte[] text, int n) {
            fault = 0;
            place = NONE;
            land = told;
            if (land == null) {
                return 0;
            }
            land.makeEmpty();
            tokens.begin(text, n);
            boolean goesOn = readLandLine();
            for (int i = 0; i < MOST_BYTES && goesOn && tokens.kind != Tokens.END; i++) {
                goesOn = readLine();
            }
            return fault;
        }

        int placeOfFault() {
            return place;
        }

        private boolean refuse(int kind) {
            fault = tokens.kind == Tokens.BAD ? NO_TOKEN : kind;
            place = tokens.start;
            return false;
        }

        private boolean take(int kind) {
            if (tokens.kind != kind) {
                return refuse(MISPLACED);
            }
            tokens.advance();
            return true;
        }

        /** Takes a number within bounds, but not the one that is barred, and keeps it as the last one. */
        private boolean takeNumber(int least, int most, int barred) {
            if (tokens.kind != Tokens.NUMBER) {
                return refuse(MISPLACED);
            }
            if (tokens.value < least || tokens.value > most || tokens.value == barred) {
                return refuse(OUT_OF_BOUNDS);
            }
            last = tokens.value;
            tokens.advance();
            return true;
        }

        private boolean takeLineEnd() {
            if (!take(';')) {
                return false;
            }
            land.lines++;
            return true;
        }

        private boolean readLandLine() {
            if (!take(Tokens.LAND) || !take(Tokens.PLACES) || !takeNumber(1, MOST_PLACES, NONE)) {
                return false;
            }
            land.places = last;
            return takeLineEnd();
        }

        private boolean readLine() {
            switch (tokens.kind) {
                case Tokens.LANE:
                    return readLane();
                case Tokens.CART:
                    return readCart();
                case Tokens.PERSON:
                    return readPerson();
                case Tokens.RAIN:
                    return readRain();
                case Tokens.WEARS:
                    return readWears();
                case Tokens.MAY:
                    return readMay();
                default:
                    return refuse(MISPLACED);
            }
        }

        private boolean readLane() {
            int l = land.lanes;
            if (l < 0 || l >= MOST_LANES) {
                return refuse(ONE_TOO_MANY);
            }
            tokens.advance();
            if (!takeNumber(0, land.places - 1, NONE)) {
                return false;
            }
            land.one[l] = last;
            if (!takeNumber(0, land.places - 1, last)) {
                return false;
            }
            land.two[l] = last;
            for (int i = 0; i < MOST_BYTES && tokens.kind != ';'; i++) {
                if (!readFlag(l)) {
                    return false;
                }
            }
            land.lanes++;
            return takeLineEnd();
        }

        private boolean readFlag(int l) {
            int flag = tokens.kind;
            if (flag != Tokens.DEPTH && flag != Tokens.SOFT && flag != Tokens.RISK) {
                return refuse(MISPLACED);
            }
            tokens.advance();
            int most = flag == Tokens.DEPTH ? MOST_DEEP : flag == Tokens.SOFT ? MOST_SOFT : MOST_RISK;
            if (!takeNumber(0, most, NONE)) {
                return false;
            }
            if (flag == Tokens.DEPTH) {
                land.deep[l] = last;
            } else if (flag == Tokens.SOFT) {
                land.soft[l] = last;
            } else {
                land.risk[l] = last;
            }
            return true;
        }

        private boolean readCart() {
            tokens.advance();
            if (!take(Tokens.AT) || !takeNumber(0, land.places - 1, NONE)) {
                return false;
            }
            land.cart = last;
            if (!take(Tokens.PULL) || !takeNumber(0, MOST_PULL, NONE)) {
                return false;
            }
            land.pull = last;
            return takeLineEnd();
        }

        private boolean readPerson() {
            int p = land.people;
            if (p < 0 || p >= MOST_PEOPLE) {
                return refuse(ONE_TOO_MANY);
            }
            tokens.advance();
            if (!take(Tokens.TURNS) || !takeNumber(0, MOST_PEOPLE, NONE)) {
                return false;
            }
            land.turns[p] = last;
            for (int i = 0; i < MOST_BYTES && tokens.kind == Tokens.BACK; i++) {
                land.back |= 1 << p;
                tokens.advance();
            }
            land.people++;
            return takeLineEnd();
        }

        private boolean readRain() {
            tokens.advance();
            if (!takeNumber(0, MOST_RAIN, NONE)) {
                return false;
            }
            land.rain = last;
            return takeLineEnd();
        }

        private boolean readWears() {
            tokens.advance();
            inMay = false;
            int from = land.laws.stepsNow();
            if (!take(':') || !readSum(0)) {
                return false;
            }
            land.laws.enact(Laws.WEARS, from);
            return takeLineEnd();
        }

        private boolean readMay() {
            tokens.advance();
            inMay = true;
            int from = land.laws.stepsNow();
            if (!take(':') || !readTruth(0)) {
                return false;
            }
            land.laws.enact(Laws.MAY, from);
            return takeLineEnd();
        }

        /** Takes one of those that can stand within one another only so often. */
        private boolean takeOpening(int within) {
            if (within >= MOST_WITHIN) {
                return refuse(ONE_TOO_MANY);
            }
            tokens.advance();
            return true;
        }

        private boolean readTruth(int within) {
            boolean goesOn = readBoth(within);
            for (int i = 0; i < MOST_BYTES && goesOn && tokens.kind == Tokens.OR; i++) {
                tokens.advance();
                goesOn = readBoth(within);
                land.laws.addStep(Laws.OR, 0);
            }
            return goesOn;
        }

        private boolean readBoth(int within) {
            boolean goesOn = readUnit(within);
            for (int i = 0; i < MOST_BYTES && goesOn && tokens.kind == Tokens.AND; i++) {
                tokens.advance();
                goesOn = readUnit(within);
                land.laws.addStep(Laws.AND, 0);
            }
            return goesOn;
        }

        private boolean readUnit(int within) {
            if (tokens.kind == Tokens.NOT) {
                boolean goesOn = takeOpening(within) && readUnit(within + 1);
                land.laws.addStep(Laws.NOT, 0);
                return goesOn;
            }
            if (tokens.kind == '[') {
                return takeOpening(within) && readTruth(within + 1) && take(']');
            }
            if (!readSum(within)) {
                return false;
            }
            int sign = tokens.kind;
            if (sign != '=' && sign != '<' && sign != '>') {
                return refuse(MISPLACED);
            }
            tokens.advance();
            boolean goesOn = readSum(within);
            land.laws.addStep(sign == '=' ? Laws.LIKE : sign == '<' ? Laws.LESS : Laws.MORE, 0);
            return goesOn;
        }

        private boolean readSum(int within) {
            boolean goesOn = readTerm(within);
            for (int i = 0; i < MOST_BYTES && goesOn && (tokens.kind == '+' || tokens.kind == '-'); i++) {
                int sign = tokens.kind;
                tokens.advance();
                goesOn = readTerm(within);
                land.laws.addStep(sign == '+' ? Laws.PLUS : Laws.MINUS, 0);
            }
            return goesOn;
        }

        private boolean readTerm(int within) {
            boolean goesOn = readAtom(within);
            for (int i = 0; i < MOST_BYTES && goesOn && tokens.kind == '*'; i++) {
                tokens.advance();
                goesOn = readAtom(within);
                land.laws.addStep(Laws.TIMES, 0);
            }
            return goesOn;
        }

        private boolean readAtom(int within) {
            switch (tokens.kind) {
                case Tokens.NUMBER:
                    return addAtom(Laws.NUMBER, tokens.value);
                case '(':
                    return takeOpening(within) && readSum(within + 1) && take(')');
                case Tokens.IF:
                    return readIf(within);
                case Tokens.LANE:
                    return addAtom(Laws.SEEN, Laws.SEES_LANE);
                case Tokens.DEPTH:
                    return addAtom(Laws.SEEN, Laws.SEES_DEPTH);
                case Tokens.SOFT:
                    return addAtom(Laws.SEEN, Laws.SEES_SOFT);
                case Tokens.PULL:
                    return addAtom(Laws.SEEN, Laws.SEES_PULL);
                case Tokens.RAIN:
                    return addAtom(Laws.SEEN, Laws.SEES_RAIN);
                case Tokens.BACK:
                    return inMay ? addAtom(Laws.SEEN, Laws.SEES_BACK) : refuse(MISPLACED);
                default:
                    return refuse(MISPLACED);
            }
        }

        private boolean addAtom(int kind, int number) {
            land.laws.addStep(kind, number);
            tokens.advance();
            return true;
        }

        private boolean readIf(int within) {
            boolean goesOn = takeOpening(within) && readTruth(within + 1)
                    && take(Tokens.THEN) && readSum(within + 1)
                    && take(Tokens.ELSE) && readSum(within + 1) && take(Tokens.END_IF);
            land.laws.addStep(Laws.CHOOSE, 0);
            return goesOn;
        }
    }

    /** A land, and all in it that deeds change. */
    private static final class Course {
        Land land;
        int cart;
        int rain;
        int back;
        int went;
        final int[] deep = new int[MOST_LANES];

        Course(Land land) {
            this.land = land;
        }

        void beginIn(Land told) {
            land = told;
            cart = told.cart;
            rain = told.rain;
            back = told.back;
            went = 0;
            System.arraycopy(told.deep, 0, deep, 0, MOST_LANES);
        }

        void takeOver(Course from) {
            land = from.land;
            cart = from.cart;
            rain = from.rain;
            back = from.back;
            went = from.went;
            System.arraycopy(from.deep, 0, deep, 0, MOST_LANES);
        }

        int depthOf(int l) {
            return land.hasLane(l) ? deep[l] : 0;
        }

        int allDepths() {
            int sum = 0;
            for (int l = 0; l < land.lanes && l < MOST_LANES; l++) {
                sum += deep[l];
            }
            return sum;
        }

        boolean isOpen(int l) {
            return land.hasLane(l) && land.mayGo(l, deep[l], this);
        }

        int openLanes() {
            int set = 0;
            for (int l = 0; l < land.lanes && l < MOST_LANES; l++) {
                if (land.mayGo(l, deep[l], this)) {
                    set |= 1 << l;
                }
            }
            return set;
        }

        int fillingsOf(int l) {
            for (int depth = depthOf(l); depth >= 0; depth--) {
                if (land.mayGo(l, depth, this)) {
                    return depthOf(l) - depth;
                }
            }
            return NONE;
        }

        int whyNoGoing(int l) {
            if (!land.hasLane(l)) {
                return NO_SUCH_ONE;
            }
            if (land.otherEnd(l, cart) == NONE) {
                return NOT_THERE;
            }
            return land.mayGo(l, deep[l], this) ? 0 : BY_LAW;
        }

        /** Why a deed, told as in a tray, can't be (0: it is done). */
        int tryDeed(long deed) {
            if (deed < 0 || deed > DEED_SEASON) {
                return NO_SUCH_ONE;
            }
            int number = (int) (deed % 10);
            switch ((int) (deed - number)) {
                case DEED_GO:
                    int why = whyNoGoing(number);
                    if (why == 0) {
                        goBy(number);
                    }
                    return why;
                case DEED_FILL:
                    return tryDepth(number, -1);
                case DEED_DIG:
                    return tryDepth(number, 1);
                case DEED_RAIN:
                    rain = number;
                    return 0;
                case DEED_TURN:
                    return tryTurning(number);
                default:
                    back = land.backBehindSeason(back);
                    return 0;
            }
        }

        private void goBy(int l) {
            int to = land.otherEnd(l, cart);
            if (to != NONE && land.hasLane(l)) {
                cart = to;
                deep[l] = land.wornFrom(l, deep[l], rain);
                went++;
            }
        }

        private int tryDepth(int l, int more) {
            if (!land.hasLane(l)) {
                return NO_SUCH_ONE;
            }
            if (deep[l] + more < 0 || deep[l] + more > MOST_DEEP) {
                return NOT_THERE;
            }
            deep[l] += more;
            return 0;
        }

        private int tryTurning(int p) {
            if (p < 0 || p >= land.people) {
                return NO_SUCH_ONE;
            }
            back ^= 1 << p;
            return 0;
        }
    }

    /** What was ahead of the latest calls that did some. */
    private static final class History {
        private final Course[] ahead = new Course[MOST_UNDONE];
        private int next;
        private int size;

        History(Land land) {
            for (int i = 0; i < ahead.length; i++) {
                ahead[i] = new Course(land);
            }
        }

        int kept() {
            return size;
        }

        void forgetAll() {
            size = 0;
        }

        void keep(Course course) {
            if (next >= 0 && next < ahead.length && ahead[next] != null) {
                ahead[next].takeOver(course);
                next = (next + 1) % MOST_UNDONE;
                size = Math.min(MOST_UNDONE, size + 1);
            }
        }

        /** What was n calls ago comes into a course. */
        void bringBack(int n, Course into) {
            if (n < 1 || n > size) {
                return;
            }
            int then = Math.floorMod(next - n, MOST_UNDONE);
            if (then >= 0 && then < ahead.length && ahead[then] != null) {
                next = then;
                size -= n;
                into.takeOver(ahead[then]);
            }
        }
    }

    /** Numbers of a sort. */
    private static final class Tray {
        boolean missing = true;
        int size;
        private int sort;
        private final long[] cells = new long[MOST_NUMBERS];

        void makeNew(int newSort, int n) {
            missing = false;
            sort = newSort;
            size = n;
            Arrays.fill(cells, 0L);
        }

        long numberAt(int i) {
            return i < 0 || i >= size || i >= cells.length ? 0L : cells[i];
        }

        void put(int i, long v) {
            if (i >= 0 && i < size && i < cells.length) {
                cells[i] = cutToSort(v);
            }
        }

        private long cutToSort(long v) {
            switch (sort) {
                case 0:
                    return (byte) v;
                case 1:
                    return (short) v;
                case 2:
                    return (int) v;
                default:
                    return v;
            }
        }
    }

    /** How far each place is from a goal, by lanes of so much weight. */
    private static final class Paths {
        // A filling weighs more than all lanes together, so that fillings are compared first, lanes then.
        private static final int FILLING = 16;

        private final int[] weight = new int[MOST_LANES];
        private final int[] far = new int[MOST_PLACES];

        static int fillingsIn(int weighed) {
            return weighed / FILLING;
        }

        static int lanesIn(int weighed) {
            return weighed % FILLING;
        }

        void measureOpen(Course course, int goal) {
            for (int l = 0; l < MOST_LANES; l++) {
                weight[l] = course.isOpen(l) ? 1 : NONE;
            }
            measure(course.land, goal);
        }

        void measureFillings(Course course, int goal) {
            weighFillings(course);
            measure(course.land, goal);
        }

        void weighFillings(Course course) {
            for (int l = 0; l < MOST_LANES; l++) {
                int fillings = course.land.hasLane(l) ? course.fillingsOf(l) : NONE;
                weight[l] = fillings == NONE ? NONE : fillings * FILLING + 1;
            }
        }

        private void measure(Land land, int goal) {
            Arrays.fill(far, NONE);
            if (goal < 0 || goal >= MOST_PLACES) {
                return;
            }
            far[goal] = 0;
            for (int round = 0; round < MOST_PLACES; round++) {
                for (int l = 0; l < land.lanes && l < MOST_LANES; l++) {
                    if (weightOf(l) != NONE) {
                        relax(land.one[l], land.two[l], weight[l]);
                        relax(land.two[l], land.one[l], weight[l]);
                    }
                }
            }
        }

        private void relax(int from, int to, int more) {
            int known = farFrom(to);
            int before = farFrom(from);
            if (known != NONE && from >= 0 && from < MOST_PLACES && (before == NONE || known + more < before)) {
                far[from] = known + more;
            }
        }

        private int weightOf(int l) {
            return l < 0 || l >= MOST_LANES ? NONE : weight[l];
        }

        int farFrom(int place) {
            return place < 0 || place >= MOST_PLACES ? NONE : far[place];
        }

        /** The i-th lane of the first of the nearest ways from a place to the goal. */
        int laneOnWay(Land land, int from, int i) {
            int place = from;
            for (int k = 0; k < MOST_LANES; k++) {
                int l = firstOnward(land, place);
                if (l == NONE || k == i) {
                    return l;
                }
                place = land.otherEnd(l, place);
            }
            return NONE;
        }

        private int firstOnward(Land land, int place) {
            int rest = farFrom(place);
            for (int l = 0; rest > 0 && l < land.lanes; l++) {
                int to = farFrom(land.otherEnd(l, place));
                int more = weightOf(l);
                if (to != NONE && more != NONE && to + more == rest) {
                    return l;
                }
            }
            return NONE;
        }

        /** The weight of a set of lanes (NONE: one of them can't be). */
        int weightOfAll(Land land, int set) {
            int sum = 0;
            for (int l = 0; l < land.lanes; l++) {
                if ((set >> l & 1) != 0) {
                    int more = weightOf(l);
                    if (more == NONE) {
                        return NONE;
                    }
                    sum += more;
                }
            }
            return sum;
        }

        /** The lightest set of lanes by which all places are joined. */
        int leastJoining(Land land) {
            int all = (1 << land.places) - 1;
            int least = NONE;
            int leastWeight = NONE;
            for (int set = 0; set < 1 << land.lanes; set++) {
                int sum = weightOfAll(land, set);
                boolean lighter = sum != NONE && (leastWeight == NONE || sum < leastWeight);
                if (lighter && land.comingFrom(0, set) == all) {
                    least = set;
                    leastWeight = sum;
                }
            }
            return least;
        }
    }

    /** Counts rows, wearing the ruts as they are gone by. */
    private static final class RowCount {
        private static final int DEPTHS = MOST_DEEP + 1;

        private final boolean[] open = new boolean[MOST_LANES * DEPTHS];
        private final int[] then = new int[MOST_LANES * DEPTHS];
        private final int[] deep = new int[MOST_LANES];
        private final int[] into = new int[MOST_PLACES];
        private Land land;
        private Paths paths;
        private int goal;

        /** The paths are those by lanes that are open now: what isn't won't be by going. */
        int countRows(Course course, Paths near, int k, int n) {
            land = course.land;
            paths = near;
            goal = k;
            for (int l = 0; l < MOST_LANES; l++) {
                deep[l] = course.depthOf(l);
                for (int depth = 0; depth < DEPTHS; depth++) {
                    open[l * DEPTHS + depth] = land.mayGo(l, depth, course);
                    then[l * DEPTHS + depth] = land.wornFrom(l, depth, course.rain);
                }
            }
            return rowsFrom(course.cart, n);
        }

        private int rowsFrom(int place, int left) {
            int far = paths.farFrom(place);
            if (far == NONE || far > left || left > MOST_ROW) {
                return 0;
            }
            if (left <= 0) {
                return 1;
            }
            if (left == 2) {
                return pairsFrom(place);
            }
            int sum = 0;
            for (int l = 0; l < land.lanes && l < MOST_LANES; l++) {
                int to = land.otherEnd(l, place);
                int depth = deep[l];
                if (to != NONE && isOpenAt(l, depth)) {
                    deep[l] = depthBehind(l, depth);
                    sum += rowsFrom(to, left - 1);
                    deep[l] = depth;
                }
            }
            return sum;
        }

        /** Rows of two lanes: most of all rows end so, therefore they are multiplied instead of gone by. */
        private int pairsFrom(int place) {
            Arrays.fill(into, 0);
            for (int l = 0; l < land.lanes && l < MOST_LANES; l++) {
                int from = land.otherEnd(l, goal);
                if (from >= 0 && from < MOST_PLACES && isOpenAt(l, deep[l])) {
                    into[from]++;
                }
            }
            int sum = 0;
            for (int l = 0; l < land.lanes && l < MOST_LANES; l++) {
                int to = land.otherEnd(l, place);
                if (to >= 0 && to < MOST_PLACES && isOpenAt(l, deep[l])) {
                    sum += into[to];
                    // Back by the same lane was counted by the rut as it is ahead of both.
                    if (place == goal && !isOpenAt(l, depthBehind(l, deep[l]))) {
                        sum--;
                    }
                }
            }
            return sum;
        }

        private boolean isOpenAt(int l, int depth) {
            int cell = l * DEPTHS + depth;
            return cell >= 0 && cell < open.length && open[cell];
        }

        private int depthBehind(int l, int depth) {
            int cell = l * DEPTHS + depth;
            return cell >= 0 && cell < then.length ? then[cell] : depth;
        }
    }

    /** Two who drive by turns. */
    private static final class Duel {
        // By lanes gone by already, as bits: places in which the one who is on wins, as bits.
        private final int[] won = new int[1 << MOST_LANES];

        /** The first lane by which the one who is on wins. */
        int firstWinning(Course course) {
            Land land = course.land;
            int open = course.openLanes();
            for (int used = (1 << land.lanes) - 1; used >= 0; used--) {
                if (used < won.length) {
                    won[used] = wonBehind(land, open, used);
                }
            }
            for (int l = 0; l < land.lanes; l++) {
                if (leadsToLoss(land, open, 0, l, course.cart)) {
                    return l;
                }
            }
            return NONE;
        }

        private int wonBehind(Land land, int open, int used) {
            int places = 0;
            for (int l = 0; l < land.lanes && l < MOST_LANES; l++) {
                if (leadsToLoss(land, open, used, l, land.one[l])) {
                    places |= 1 << land.one[l];
                }
                if (leadsToLoss(land, open, used, l, land.two[l])) {
                    places |= 1 << land.two[l];
                }
            }
            return places;
        }

        private boolean leadsToLoss(Land land, int open, int used, int l, int from) {
            int to = land.otherEnd(l, from);
            int behind = used | 1 << l;
            if (to == NONE || behind == used || (open >> l & 1) == 0 || behind < 0 || behind >= won.length) {
                return false;
            }
            return (won[behind] >> to & 1) == 0;
        }
    }

    /** How likely it comes through. */
    private static final class Odds {
        private static final int TENTHS = 10;

        // By place: how likely, in parts of 10 to the power of the lanes that may still be gone by.
        private int[] likely = new int[MOST_PLACES];
        private int[] before = new int[MOST_PLACES];
        private int whole;

        int aboveAt(int place) {
            return place < 0 || place >= MOST_PLACES ? 0 : likely[place];
        }

        int belowAll() {
            return whole;
        }

        void weigh(Course course, int goal, int n) {
            Land land = course.land;
            int open = course.openLanes();
            Arrays.fill(likely, 0);
            whole = 1;
            putWhole(goal);
            for (int step = 0; step < n && step < MOST_THROUGH; step++) {
                int[] swapped = before;
                before = likely;
                likely = swapped;
                Arrays.fill(likely, 0);
                for (int l = 0; l < land.lanes && l < MOST_LANES; l++) {
                    if ((open >> l & 1) != 0) {
                        raise(land.one[l], throughTo(land, l, land.two[l]));
                        raise(land.two[l], throughTo(land, l, land.one[l]));
                    }
                }
                whole *= TENTHS;
                putWhole(goal);
            }
        }

        private void putWhole(int goal) {
            if (goal >= 0 && goal < MOST_PLACES) {
                likely[goal] = whole;
            }
        }

        private void raise(int place, int above) {
            if (place >= 0 && place < MOST_PLACES) {
                likely[place] = Math.max(likely[place], above);
            }
        }

        private int throughTo(Land land, int l, int to) {
            if (!land.hasLane(l) || to < 0 || to >= MOST_PLACES) {
                return 0;
            }
            return (TENTHS - land.risk[l]) * before[to];
        }

        int firstLikeliest(Course course, int goal, int n) {
            if (n < 1) {
                return NONE;
            }
            weigh(course, goal, n);
            int most = aboveAt(course.cart);
            for (int l = 0; most > 0 && l < course.land.lanes; l++) {
                int to = course.land.otherEnd(l, course.cart);
                if (course.isOpen(l) && throughTo(course.land, l, to) == most) {
                    return l;
                }
            }
            return NONE;
        }

        static int commonOf(int a, int b) {
            int more = a;
            int less = b;
            for (int i = 0; i < 64 && less != 0; i++) {
                int rest = more % less;
                more = less;
                less = rest;
            }
            return more;
        }
    }
}
