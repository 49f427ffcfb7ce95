/**
 * A saying percolates through the houses of a parish into a cup; this class keeps the parish and
 * answers what is, what was and what would be. The document's promises are its only description.
 */
public final class Percolated {
    private static final int NOBODY = -1;
    private static final int OTHER = -2;
    private static final int STATE = -3;
    private static final int BELOW = -4;
    private static final int ROOM = -6;
    private static final int NONE = -9;
    private static final int FINE = 0;
    private static final int INT_REFUSED = 1000000000;
    private static final long LONG_REFUSED = 4000000000000000000L;

    private static final int LETTER_FAULT = -1000;
    private static final int STATEMENT_FAULT = -2000;

    private static final int MOST_HOUSES = 9;
    private static final int CUP = 9;
    private static final int MOST_KIND = 5;
    private static final int MOST_FIGURE = 9;
    private static final int MOST_HELD = 99;
    private static final int MOST_IN_CUP = 9999;
    private static final int MOST_HOUR = 999;
    private static final int MOST_PASSING = 60;
    private static final int MOST_AHEAD = 60;
    private static final int MOST_SETTLED = 50;
    private static final int MOST_BACK = 8;
    private static final int MOST_LETTERS = 96;
    private static final int MOST_LETTER = 255;
    private static final int MOST_IN_ROW = 12;
    private static final int MOST_NUMBER = 99;
    private static final int MOST_WANTED = 999;
    private static final int MOST_AHEAD_OF_TWO = 30;
    private static final int PRICE_OF_HOLDING = 3;
    private static final int MOST_HOURS_BY_ODDS = 7;
    private static final int LEAST_ODDS = 2;
    private static final int MOST_ODDS = 20;
    private static final int MOST_SHARES = 9;
    private static final int MOST_WEEKS = 20;
    private static final int POURS_A_WEEK = 3;
    private static final int HOURS_A_WEEK = 12;
    private static final int DRAWN_BELOW = 40;

    private final Parish now = new Parish();
    private final Parish mind = new Parish();
    private final Parish picture = new Parish();
    private final Past past = new Past();
    private final Letters letters = new Letters();
    private final Numbers numbers = new Numbers();
    private final int[] refusals = new int[7];
    private boolean pictured;

    public Percolated() {
    }

    public int feed(int letter) {
        int wrong = outside(letter, 0, MOST_LETTER);
        if (wrong != FINE) {
            return refuse(wrong);
        }
        if (!letters.add(letter)) {
            return refuse(ROOM);
        }
        return letters.size();
    }

    public int parish() {
        int fault = letters.firstFault();
        int answer = fault < 0 ? tellAll() : LETTER_FAULT - fault;
        letters.drop();
        return answer;
    }

    public int houseOf(int house, int what) {
        if (!now.there(house)) {
            return refuse(NOBODY);
        }
        switch (what) {
            case 0:
                return now.kindOf(house);
            case 1:
                return now.figureOf(house);
            case 2:
                return now.holdsOf(house);
            case 3:
                return now.nextOf(house);
            case 4:
                return now.isBlocked(house) ? 1 : 0;
            case 5:
                return now.isWet(house) ? 1 : 0;
            case 6:
                return now.isBlocked(house) ? 0 : now.letsThrough(house);
            default:
                return refuse(OTHER);
        }
    }

    public int house(int kind, int figure) {
        if (kind < 0 || kind > MOST_KIND) {
            return refuse(OTHER);
        }
        int wrong = outside(figure, 0, MOST_FIGURE);
        if (wrong != FINE) {
            return refuse(wrong);
        }
        if (!now.build(kind, figure)) {
            return refuse(ROOM);
        }
        past.forget();
        return now.houses() - 1;
    }

    public int joins(int house, int next) {
        if (!now.there(house) || next < 0 || next > CUP) {
            return refuse(NOBODY);
        }
        if (next <= house) {
            return refuse(STATE);
        }
        past.keep(now);
        int old = now.nextOf(house);
        now.lead(house, next);
        return old;
    }

    public int blocks(int house) {
        if (!now.there(house)) {
            return refuse(NOBODY);
        }
        past.keep(now);
        now.blockOrFree(house);
        return now.isBlocked(house) ? 1 : 0;
    }

    public int pours(int house, int v) {
        if (!now.there(house)) {
            return refuse(NOBODY);
        }
        int wrong = outside(v, 0, MOST_HELD);
        if (wrong != FINE) {
            return refuse(wrong);
        }
        past.keep(now);
        now.fill(house, v);
        return now.holdsOf(house);
    }

    public int empties() {
        int had = now.inCup();
        now.emptyCup();
        past.forget();
        return had;
    }

    public int hours(int n) {
        int wrong = outside(n, 1, MOST_PASSING);
        if (wrong != FINE) {
            return refuse(wrong);
        }
        if (!now.hasTimeFor(n)) {
            return refuse(ROOM);
        }
        past.keep(now);
        now.pass(n);
        return now.inCup();
    }

    public int back() {
        if (!past.giveLatest(now)) {
            return refuse(STATE);
        }
        return past.size();
    }

    public int holdsIn(int house, int n) {
        if (!now.there(house)) {
            return refuse(NOBODY);
        }
        int wrong = outside(n, 0, MOST_AHEAD);
        if (wrong != FINE) {
            return refuse(wrong);
        }
        think();
        mind.pass(n);
        return mind.holdsOf(house);
    }

    public int then(int n, int what) {
        int wrong = outside(n, 0, MOST_AHEAD);
        if (wrong != FINE) {
            return refuse(wrong);
        }
        if (what != 0 && what != 1) {
            return refuse(OTHER);
        }
        think();
        mind.pass(n);
        return what == 0 ? mind.inCup() : mind.holdsInAll();
    }

    public int drip(int what) {
        switch (what) {
            case 0:
                return firstDrip();
            case 1:
                return driedAfter();
            case 2:
                return settledAfter();
            default:
                return refuse(OTHER);
        }
    }

    public int reaches(int house, int v) {
        if (!now.there(house)) {
            return refuse(NOBODY);
        }
        int wrong = outside(v, 1, MOST_HELD);
        if (wrong != FINE) {
            return refuse(wrong);
        }
        think();
        for (int n = 0; n <= MOST_AHEAD; n++) {
            if (mind.holdsOf(house) >= v) {
                return n;
            }
            mind.flow();
        }
        return NONE;
    }

    public int pour(int v, int n, int what) {
        if (v < 1 || n < 0) {
            return refuse(BELOW);
        }
        if (v > MOST_HELD || n > MOST_AHEAD) {
            return refuse(ROOM);
        }
        if (what != 0 && what != 1) {
            return refuse(OTHER);
        }
        int most = NONE;
        int best = NONE;
        for (int i = 0; i < now.houses(); i++) {
            think();
            mind.fill(i, v);
            int has = cupBehind(n);
            if (has > most) {
                most = has;
                best = i;
            }
        }
        return what == 0 ? best : most;
    }

    public int least(int w, int n) {
        if (w < 0 || n < 0) {
            return refuse(BELOW);
        }
        if (w > MOST_WANTED || n > MOST_AHEAD) {
            return refuse(ROOM);
        }
        if (now.houses() == 0) {
            return NONE;
        }
        for (int v = 0; v <= MOST_HELD; v++) {
            think();
            mind.fill(0, v);
            if (cupBehind(n) >= w) {
                return v;
            }
        }
        return NONE;
    }

    public int clearing(int n) {
        int wrong = outside(n, 0, MOST_AHEAD);
        if (wrong != FINE) {
            return refuse(wrong);
        }
        int blocked = now.blockedBits();
        int most = NONE;
        int best = 0;
        for (int bits = 0; bits <= blocked; bits++) {
            if ((bits & blocked) != bits) {
                continue;
            }
            think();
            mind.free(bits);
            int has = cupBehind(n);
            boolean fewer = Integer.bitCount(bits) < Integer.bitCount(best);
            if (has > most || has == most && fewer) {
                most = has;
                best = bits;
            }
        }
        return best;
    }

    public int stop(int n) {
        int wrong = outside(n, 0, MOST_AHEAD);
        if (wrong != FINE) {
            return refuse(wrong);
        }
        think();
        int fewest = cupBehind(n);
        int best = NONE;
        for (int i = 0; i < now.houses(); i++) {
            if (now.isBlocked(i)) {
                continue;
            }
            think();
            mind.block(i);
            int has = cupBehind(n);
            if (has < fewest) {
                fewest = has;
                best = i;
            }
        }
        return best;
    }

    public int join(int n) {
        int wrong = outside(n, 0, MOST_AHEAD);
        if (wrong != FINE) {
            return refuse(wrong);
        }
        think();
        int most = cupBehind(n);
        int best = NONE;
        for (int i = 0; i < now.houses(); i++) {
            for (int next = i + 1; next <= CUP; next++) {
                if (next == now.nextOf(i) || next != CUP && !now.there(next)) {
                    continue;
                }
                think();
                mind.lead(i, next);
                int has = cupBehind(n);
                if (has > most) {
                    most = has;
                    best = 10 * i + next;
                }
            }
        }
        return best;
    }

    public int way(int house, int what) {
        if (!now.there(house)) {
            return refuse(NOBODY);
        }
        int bits = now.wayBits(house);
        switch (what) {
            case 0:
                return Integer.bitCount(bits);
            case 1:
                return Integer.bitCount(bits & now.blockedBits());
            case 2:
                return bits;
            default:
                return refuse(OTHER);
        }
    }

    public int whichBlocked() {
        int bits = 0;
        for (int i = 0; i < now.houses(); i++) {
            if (now.isBlocked(i)) {
                continue;
            }
            think();
            mind.block(i);
            if (rowTellsCup()) {
                bits |= 1 << i;
            }
        }
        return bits;
    }

    public int wasPoured(int house, int what) {
        if (!now.there(house)) {
            return refuse(NOBODY);
        }
        if (what < 0 || what > 2) {
            return refuse(OTHER);
        }
        int found = 0;
        int first = NONE;
        int last = NONE;
        for (int v = 0; v <= MOST_HELD; v++) {
            think();
            mind.fill(house, v);
            if (rowTellsCup()) {
                found++;
                first = first == NONE ? v : first;
                last = v;
            }
        }
        if (what == 0) {
            return found;
        }
        return what == 1 ? first : last;
    }

    public int whatKind(int house, int what) {
        if (!now.there(house)) {
            return refuse(NOBODY);
        }
        switch (what) {
            case 0:
                return kindsTold(house);
            case 1:
                return figuresTold(house);
            default:
                return refuse(OTHER);
        }
    }

    public int two(int one, int other, int n) {
        if (!now.there(one) || !now.there(other) || one == other) {
            return refuse(NOBODY);
        }
        int wrong = outside(n, 0, MOST_AHEAD_OF_TWO);
        if (wrong != FINE) {
            return refuse(wrong);
        }
        for (int a = 0; a <= 1; a++) {
            for (int b = 0; b <= 1; b++) {
                if (isContent(one, a, other, b, n) && isContent(other, b, one, a, n)) {
                    return 10 * a + b;
                }
            }
        }
        return NONE;
    }

    public long blocked(int n, int t, int v, int part) {
        if (n < 0 || t < LEAST_ODDS || v < 0) {
            return refuseLong(BELOW);
        }
        if (n > MOST_HOURS_BY_ODDS || t > MOST_ODDS || v > MOST_WANTED) {
            return refuseLong(ROOM);
        }
        if (part != 0 && part != 1) {
            return refuseLong(OTHER);
        }
        long above = 0;
        long below = 1;
        long ways = 1;
        long odds = 1;
        think();
        // A blocked hour leaves all as it was, so only how many hours flow matters, not which.
        for (int flowing = 0; flowing <= n; flowing++) {
            if (mind.inCup() >= v) {
                above += ways * odds;
            }
            ways = ways * (n - flowing) / (flowing + 1);
            odds *= t - 1;
            below *= flowing < n ? t : 1;
            mind.flow();
        }
        return partOf(above, below, part);
    }

    public int shares(int n, int what) {
        int wrong = outside(n, 1, MOST_SHARES);
        if (wrong != FINE) {
            return refuse(wrong);
        }
        if (what != 0 && what != 1) {
            return refuse(OTHER);
        }
        return what == 0 ? now.inCup() / n : now.inCup() % n;
    }

    public int fullest(int what) {
        switch (what) {
            case 0:
                return houseHoldingMost();
            case 1:
                return housesAtCup();
            case 2:
                return now.allBits() & ~now.wetBits();
            case 3:
                return longestWay();
            case 4:
                return longestStill();
            case 5:
                return twins();
            default:
                return refuse(OTHER);
        }
    }

    public int into(int house) {
        if (!now.there(house)) {
            return refuse(NOBODY);
        }
        int found = 0;
        for (int i = 0; i < now.houses(); i++) {
            if (now.nextOf(i) == house) {
                found++;
            }
        }
        return found;
    }

    public long mean(int part) {
        if (part != 0 && part != 1) {
            return refuseLong(OTHER);
        }
        return partOf(now.holdsInAll(), now.houses(), part);
    }

    public int strong(int n) {
        int wrong = outside(n, 0, MOST_AHEAD);
        if (wrong != FINE) {
            return INT_REFUSED - refuse(wrong);
        }
        think();
        int asItIs = cupBehind(n);
        think();
        mind.free(now.blockedBits());
        return cupBehind(n) - asItIs;
    }

    public int kinds(int kind) {
        if (kind < 0 || kind > MOST_KIND) {
            return refuse(OTHER);
        }
        int found = 0;
        for (int i = 0; i < now.houses(); i++) {
            if (now.kindOf(i) == kind) {
                found++;
            }
        }
        return found;
    }

    public int turn(int house, int n) {
        if (!now.there(house)) {
            return refuse(NOBODY);
        }
        int wrong = outside(n, 0, MOST_AHEAD);
        if (wrong != FINE) {
            return refuse(wrong);
        }
        int most = NONE;
        int best = NONE;
        for (int kind = 0; kind <= MOST_KIND; kind++) {
            think();
            mind.remake(house, kind, now.figureOf(house));
            int has = cupBehind(n);
            if (has > most) {
                most = has;
                best = kind;
            }
        }
        return best;
    }

    public int row(int v) {
        int wrong = outside(v, 0, MOST_NUMBER);
        if (wrong != FINE) {
            return refuse(wrong);
        }
        if (!numbers.add(v)) {
            return refuse(ROOM);
        }
        return numbers.size();
    }

    public int judge() {
        int answer = NONE;
        for (int i = 0; i < numbers.size() && answer == NONE; i++) {
            if (!now.there(i) || now.holdsOf(i) != numbers.at(i)) {
                answer = i;
            }
        }
        numbers.drop();
        return answer;
    }

    public int clear() {
        int had = numbers.size();
        numbers.drop();
        return had;
    }

    public int lots(int n, int z, int what) {
        int wrong = outside(n, 1, MOST_WEEKS);
        if (wrong != FINE) {
            return refuse(wrong);
        }
        if (what != 0 && what != 1) {
            return refuse(OTHER);
        }
        int seed = z;
        int together = 0;
        for (int week = 0; week < n; week++) {
            seed = liveWeek(seed);
            together += what == 0 ? mind.inCup() - now.inCup() : mind.holdsInAll();
        }
        return together;
    }

    public int image() {
        picture.become(now);
        pictured = true;
        return now.hour();
    }

    public int restore() {
        if (!pictured) {
            return refuse(STATE);
        }
        now.become(picture);
        past.forget();
        return now.hour();
    }

    public int count(int what) {
        switch (what) {
            case 0:
                return now.houses();
            case 1:
                return now.hour();
            case 2:
                return now.inCup();
            case 3:
                return now.blockedBits();
            case 4:
                return now.wetBits();
            case 5:
                return now.holdsInAll();
            case 6:
                return letters.size();
            case 7:
                return numbers.size();
            case 8:
                return past.size();
            default:
                return refusalsCounted(what);
        }
    }

    private int refusalsCounted(int what) {
        if (what < 11 || what > 16) {
            return NONE;
        }
        return refusals[what - 10];
    }

    private int refuse(int number) {
        if (number < 0 && number >= ROOM) {
            refusals[-number]++;
        }
        return number;
    }

    private long refuseLong(int number) {
        return LONG_REFUSED - refuse(number);
    }

    private static int outside(int number, int least, int most) {
        if (number < least) {
            return BELOW;
        }
        return number > most ? ROOM : FINE;
    }

    /** All that is asked in mind starts from now, whatever was thought before. */
    private void think() {
        mind.become(now);
    }

    private int cupBehind(int n) {
        mind.pass(n);
        return mind.inCup();
    }

    /** The letters are known to be statements; they are tried in mind, as a fault undoes all. */
    private int tellAll() {
        think();
        int told = 0;
        for (int at = 0; at < letters.size(); at++) {
            if (letters.beginsAt(at)) {
                if (!tell(at)) {
                    return STATEMENT_FAULT - at;
                }
                told++;
            }
        }
        now.become(mind);
        past.forget();
        return told;
    }

    private boolean tell(int at) {
        int first = letters.digitAt(at + 1);
        int second = letters.digitAt(at + 2);
        switch (letters.at(at)) {
            case 'n':
                return mind.build(first, second);
            case 'x':
                return mind.lead(first, second);
            case 'b':
                return mind.blockOrFree(first);
            case 'v':
                return mind.fill(first, 10 * second + letters.digitAt(at + 3));
            case 'c':
                mind.emptyCup();
                return true;
            case 'd':
                if (!mind.hasTimeFor(10 * first + second)) {
                    return false;
                }
                mind.pass(10 * first + second);
                return true;
            default:
                return false;
        }
    }

    private int firstDrip() {
        think();
        for (int n = 0; n <= MOST_AHEAD; n++) {
            if (mind.inCup() > now.inCup()) {
                return n;
            }
            mind.flow();
        }
        return NONE;
    }

    private int driedAfter() {
        think();
        for (int n = 0; n <= MOST_AHEAD; n++) {
            if (mind.holdsInAll() == 0) {
                return n;
            }
            mind.flow();
        }
        return NONE;
    }

    private int settledAfter() {
        think();
        // Behind an hour in which nothing flows come only such hours: one stands for all ten.
        for (int n = 0; n <= MOST_SETTLED; n++) {
            if (!mind.flow()) {
                return n;
            }
        }
        return NONE;
    }

    private boolean rowTellsCup() {
        for (int i = 0; i < numbers.size(); i++) {
            if (numbers.at(i) != mind.inCup()) {
                return false;
            }
            mind.flow();
        }
        return true;
    }

    private int kindsTold(int house) {
        int bits = 0;
        for (int kind = 0; kind <= MOST_KIND; kind++) {
            think();
            mind.remake(house, kind, now.figureOf(house));
            if (rowTellsCup()) {
                bits |= 1 << kind;
            }
        }
        return bits;
    }

    private int figuresTold(int house) {
        int bits = 0;
        for (int figure = 0; figure <= MOST_FIGURE; figure++) {
            think();
            mind.remake(house, now.kindOf(house), figure);
            if (rowTellsCup()) {
                bits |= 1 << figure;
            }
        }
        return bits;
    }

    private boolean isContent(int house, int choice, int other, int others, int n) {
        int asChosen = gain(house, choice, other, others, n);
        return asChosen >= gain(house, 1 - choice, other, others, n);
    }

    private int gain(int house, int choice, int other, int others, int n) {
        think();
        if (choice == 1) {
            mind.block(house);
        }
        if (others == 1) {
            mind.block(other);
        }
        mind.pass(n);
        return mind.holdsOf(house) - PRICE_OF_HOLDING * choice;
    }

    private int houseHoldingMost() {
        int best = NONE;
        int most = -1;
        for (int i = 0; i < now.houses(); i++) {
            if (now.holdsOf(i) > most) {
                most = now.holdsOf(i);
                best = i;
            }
        }
        return best;
    }

    private int housesAtCup() {
        int bits = 0;
        for (int i = 0; i < now.houses(); i++) {
            if (!now.there(now.nextOf(i))) {
                bits |= 1 << i;
            }
        }
        return bits;
    }

    private int longestWay() {
        int longest = 0;
        for (int i = 0; i < now.houses(); i++) {
            longest = Math.max(longest, Integer.bitCount(now.wayBits(i)));
        }
        return longest;
    }

    private int longestStill() {
        think();
        int longest = 0;
        int run = 0;
        for (int n = 0; n < MOST_AHEAD; n++) {
            mind.flow();
            run = mind.hasDripped() ? 0 : run + 1;
            longest = Math.max(longest, run);
        }
        return longest;
    }

    private int twins() {
        int found = 0;
        for (int i = 0; i < now.houses(); i++) {
            for (int j = i + 1; j < now.houses(); j++) {
                if (now.holdsOf(i) == now.holdsOf(j)) {
                    found++;
                }
            }
        }
        return found;
    }

    /** Lives one week in mind and answers the seed for the next. */
    private int liveWeek(int start) {
        think();
        int seed = start;
        for (int i = 0; i < POURS_A_WEEK && now.houses() > 0; i++) {
            seed = nextSeed(seed);
            int house = drawn(seed, now.houses());
            seed = nextSeed(seed);
            mind.fill(house, drawn(seed, DRAWN_BELOW));
        }
        mind.pass(HOURS_A_WEEK);
        return seed;
    }

    private static int nextSeed(int seed) {
        return seed * 1103515245 + 12345;
    }

    private static int drawn(int seed, int below) {
        if (below < 1) {
            return 0;
        }
        return (seed & 0x7fffffff) / 65536 % below;
    }

    /** A part of a fraction in lowest terms; a fraction of nothing is 0 over 1. */
    private static long partOf(long above, long below, int part) {
        if (above <= 0 || below <= 0) {
            return part == 0 ? 0 : 1;
        }
        long whole = part == 0 ? above : below;
        long divisor = commonDivisor(above, below);
        return divisor > 1 ? whole / divisor : whole;
    }

    private static long commonDivisor(long one, long other) {
        long greater = one;
        long rest = other;
        for (int i = 0; i < 128 && rest != 0; i++) {
            long left = greater % rest;
            greater = rest;
            rest = left;
        }
        return greater;
    }

    /** What the kinds do; a HOUSE is the default, as CANON, PUMP and SEXTON stand under it. */
    private static final class Kinds {
        static final int CANON = 1;
        static final int MISS = 2;
        static final int PUMP = 3;
        static final int SEXTON = 4;
        static final int INVALID = 5;

        private Kinds() {
        }

        static int letsThrough(int kind, int figure, int held) {
            int beyond = held > stands(kind) ? held - stands(kind) : 0;
            int would = wouldLet(kind, figure, held);
            return would < beyond ? would : beyond;
        }

        private static int wouldLet(int kind, int figure, int held) {
            switch (kind) {
                case CANON:
                    return held;
                case MISS:
                    return held / 2;
                case PUMP:
                    return figure < held ? figure : held;
                case SEXTON:
                    return figure < held ? held - figure : 0;
                case INVALID:
                    return held / 2 / 2;
                default:
                    return (held + 1) / 2;
            }
        }

        static int adds(int kind, int figure) {
            switch (kind) {
                case CANON:
                    return figure;
                case MISS:
                    return 3;
                case PUMP:
                    return 0;
                case SEXTON:
                    return figure / 2;
                case INVALID:
                    return 3 + figure;
                default:
                    return 1;
            }
        }

        private static int stands(int kind) {
            switch (kind) {
                case MISS:
                    return 1;
                case INVALID:
                    return 3;
                default:
                    return 0;
            }
        }
    }

    /**
     * The houses, the cup and the hour: what the image and each step back keep. There are never
     * more houses than the rows are long; what is asked of a house that is not there is 0.
     */
    private static final class Parish {
        private final int[] kind = new int[MOST_HOUSES];
        private final int[] figure = new int[MOST_HOUSES];
        private final int[] held = new int[MOST_HOUSES];
        private final int[] next = new int[MOST_HOUSES];
        private int built;
        private int stopped;
        private int wet;
        private int cup;
        private int hour;
        private boolean dripped;

        Parish() {
        }

        void become(Parish other) {
            if (other == null) {
                return;
            }
            System.arraycopy(other.kind, 0, kind, 0, MOST_HOUSES);
            System.arraycopy(other.figure, 0, figure, 0, MOST_HOUSES);
            System.arraycopy(other.held, 0, held, 0, MOST_HOUSES);
            System.arraycopy(other.next, 0, next, 0, MOST_HOUSES);
            built = other.built;
            stopped = other.stopped;
            wet = other.wet;
            cup = other.cup;
            hour = other.hour;
        }

        boolean there(int house) {
            return house >= 0 && house < built;
        }

        int houses() {
            return built;
        }

        int kindOf(int house) {
            return there(house) ? kind[house] : 0;
        }

        int figureOf(int house) {
            return there(house) ? figure[house] : 0;
        }

        int holdsOf(int house) {
            return there(house) ? held[house] : 0;
        }

        int nextOf(int house) {
            return there(house) ? next[house] : 0;
        }

        boolean isBlocked(int house) {
            return there(house) && (stopped >> house & 1) == 1;
        }

        boolean isWet(int house) {
            return there(house) && (wet >> house & 1) == 1;
        }

        int letsThrough(int house) {
            return there(house) ? Kinds.letsThrough(kind[house], figure[house], held[house]) : 0;
        }

        int allBits() {
            return (1 << built) - 1;
        }

        int blockedBits() {
            return stopped;
        }

        int wetBits() {
            return wet;
        }

        int inCup() {
            return cup;
        }

        int hour() {
            return hour;
        }

        boolean hasTimeFor(int n) {
            return n >= 1 && n <= MOST_PASSING && n <= MOST_HOUR - hour;
        }

        /** Whether something came to the cup in the latest hour, held or not. */
        boolean hasDripped() {
            return dripped;
        }

        int holdsInAll() {
            int sum = 0;
            for (int i = 0; i < built; i++) {
                sum += held[i];
            }
            return sum;
        }

        /** A next is always greater, so that no way comes to a house twice. */
        int wayBits(int house) {
            int bits = 0;
            int at = house;
            for (int steps = 0; steps < MOST_HOUSES && there(at); steps++) {
                bits |= 1 << at;
                at = next[at];
            }
            return bits;
        }

        boolean build(int ofKind, int withFigure) {
            if (built >= MOST_HOUSES || ofKind < 0 || ofKind > MOST_KIND) {
                return false;
            }
            kind[built] = ofKind;
            figure[built] = withFigure;
            held[built] = 0;
            next[built] = CUP;
            built++;
            return true;
        }

        void remake(int house, int toKind, int toFigure) {
            if (there(house)) {
                kind[house] = toKind;
                figure[house] = toFigure;
            }
        }

        boolean lead(int house, int toNext) {
            if (!there(house) || toNext <= house || toNext > CUP) {
                return false;
            }
            next[house] = toNext;
            return true;
        }

        boolean blockOrFree(int house) {
            if (!there(house)) {
                return false;
            }
            stopped ^= 1 << house;
            return true;
        }

        void block(int house) {
            if (there(house)) {
                stopped |= 1 << house;
            }
        }

        void free(int bits) {
            stopped &= ~bits;
        }

        boolean fill(int house, int v) {
            if (!there(house)) {
                return false;
            }
            held[house] = Math.min(MOST_HELD, held[house] + v);
            if (v > 0) {
                wet |= 1 << house;
            }
            return true;
        }

        void emptyCup() {
            cup = 0;
        }

        /** An hour without the clock: false if nothing went through, as then nothing ever will. */
        boolean flow() {
            boolean flowed = false;
            dripped = false;
            for (int i = 0; i < built; i++) {
                int leaving = isBlocked(i) ? 0 : Kinds.letsThrough(kind[i], figure[i], held[i]);
                if (leaving > 0) {
                    held[i] -= leaving;
                    flowed = true;
                    int coming = leaving + Kinds.adds(kind[i], figure[i]);
                    if (!fill(next[i], coming)) {
                        cup = Math.min(MOST_IN_CUP, cup + coming);
                        dripped = true;
                    }
                }
            }
            return flowed;
        }

        /** How far the clock may go is asked before, as hours in mind go beyond it. */
        void pass(int n) {
            for (int i = 0; i < n; i++) {
                if (!flow()) {
                    break;
                }
            }
            hour += n;
        }
    }

    /** The latest few parishes that can be taken back; the oldest gives way to one more. */
    private static final class Past {
        private final Parish[] kept = new Parish[MOST_BACK];
        private int latest;
        private int size;

        Past() {
            for (int i = 0; i < kept.length; i++) {
                kept[i] = new Parish();
            }
        }

        int size() {
            return size;
        }

        void forget() {
            size = 0;
        }

        void keep(Parish parish) {
            latest = (latest + 1) % MOST_BACK;
            size = Math.min(MOST_BACK, size + 1);
            Parish slot = kept[latest];
            if (slot != null) {
                slot.become(parish);
            }
        }

        boolean giveLatest(Parish parish) {
            if (size == 0 || parish == null) {
                return false;
            }
            parish.become(kept[latest]);
            latest = (latest + MOST_BACK - 1) % MOST_BACK;
            size--;
            return true;
        }
    }

    /** The letters told so far, and which of them begin or spoil a statement. */
    private static final class Letters {
        private static final int BEGINS = -1;

        private final int[] told = new int[MOST_LETTERS];
        private int size;

        Letters() {
        }

        int size() {
            return size;
        }

        void drop() {
            size = 0;
        }

        boolean add(int letter) {
            if (size >= MOST_LETTERS) {
                return false;
            }
            told[size] = letter;
            size++;
            return true;
        }

        int at(int place) {
            return place >= 0 && place < size ? told[place] : -1;
        }

        /** The digit at a place; -1 where there is none, which no house and no number is. */
        int digitAt(int place) {
            int letter = at(place);
            return isDigit(letter) ? letter - '0' : -1;
        }

        boolean beginsAt(int place) {
            return place == 0 || at(place - 1) == ';';
        }

        /** The place of the first letter that is no statement's (the end, if one lacks); or -1. */
        int firstFault() {
            int due = BEGINS;
            for (int place = 0; place < size; place++) {
                int letter = told[place];
                if (due == BEGINS) {
                    due = digitsBehind(letter);
                    if (due < 0) {
                        return place;
                    }
                } else if (due > 0) {
                    if (!isDigit(letter)) {
                        return place;
                    }
                    due--;
                } else {
                    if (letter != ';') {
                        return place;
                    }
                    due = BEGINS;
                }
            }
            return size > 0 && due == BEGINS ? -1 : size;
        }

        private static boolean isDigit(int letter) {
            return letter >= '0' && letter <= '9';
        }

        private static int digitsBehind(int letter) {
            switch (letter) {
                case 'c':
                    return 0;
                case 'b':
                    return 1;
                case 'n':
                case 'x':
                case 'd':
                    return 2;
                case 'v':
                    return 3;
                default:
                    return -1;
            }
        }
    }

    /** The row of numbers told so far. */
    private static final class Numbers {
        private final int[] told = new int[MOST_IN_ROW];
        private int size;

        Numbers() {
        }

        int size() {
            return size;
        }

        void drop() {
            size = 0;
        }

        boolean add(int number) {
            if (size >= MOST_IN_ROW) {
                return false;
            }
            told[size] = number;
            size++;
            return true;
        }

        int at(int place) {
            return place >= 0 && place < size ? told[place] : -1;
        }
    }
}
