import java.util.Arrays;

/**
 * A line of cells down to the sea, houses with candles in them, and what can be asked about
 * who sees whom and who hangs on the sea.
 */
public final class EachSeesTheNext {
    private static final int NOBODY = -1;
    private static final int OTHER = -2;
    private static final int STATE = -3;
    private static final int BELOW = -4;
    private static final int ROOM = -6;
    private static final int NONE = -9;
    private static final int REFUSAL_KINDS = 6;
    private static final long LONG_REFUSAL = 4000000000000000000L;

    private static final int CELLS = 20;
    private static final int SEA = 20;
    private static final int SEA_AS_HOUSE = 7;
    private static final int MOST_HOUSES = 7;
    private static final int MOST_HEIGHT = 9;
    private static final int MOST_FIGURE = 9;
    private static final int MOST_FOG = 9;
    private static final int MOST_WICKS = 99;
    private static final int FIRST_WICKS = 20;
    private static final int MOST_NIGHT = 999;
    private static final int MOST_NIGHTS = 60;
    private static final int MOST_LETTERS = 96;
    private static final int MOST_LETTER = 255;
    private static final int MOST_IN_ROW = 16;
    private static final int MOST_NUMBER = 99;

    private static final int COTTAGE = 0;
    private static final int TOWER = 1;
    private static final int SLEEPER = 2;
    private static final int LOW = 3;
    private static final int MIRROR = 4;
    private static final int OLD = 5;
    private static final int KINDS = 6;
    private static final String KIND_LETTERS = "ctslmo";

    // Thought makes the land it thinks about, so that no constructor hands out a part of its object.
    private final Thought thought = new Thought();
    private final Land now = thought.now;
    private final Land draft = new Land();
    private final Land kept = new Land();
    private boolean keptThere;
    private final Letters letters = new Letters();
    private final int[] numbers = new int[MOST_IN_ROW];
    private int inRow;
    private final int[] refusals = new int[REFUSAL_KINDS + 1];

    public EachSeesTheNext() {
    }

    // ---- what is told and changed ----

    public int letter(int c) {
        if (c < 0) {
            return refuse(BELOW);
        }
        if (c > MOST_LETTER || letters.isFull()) {
            return refuse(ROOM);
        }
        return letters.add(c);
    }

    public int land() {
        int broken = letters.brokenPlace();
        // A draft takes the statements first, so that a fault leaves the land as it was.
        draft.become(now);
        int refused = broken < 0 ? letters.refusedPlace(draft) : -1;
        int told = letters.statements;
        letters.forget();
        if (broken >= 0) {
            return -1000 - broken;
        }
        if (refused >= 0) {
            return -2000 - refused;
        }
        now.become(draft);
        return told;
    }

    public int house(int house, int what) {
        if (!now.isHouse(house)) {
            return refuse(NOBODY);
        }
        switch (what) {
            case 0: return now.kinds[house];
            case 1: return now.figures[house];
            case 2: return now.cells[house];
            case 3: return now.wicks[house];
            case 4: return now.isCalled(house) ? 1 : 0;
            case 5: return now.isLit(house) ? 1 : 0;
            case 6: return now.eyeOf(house);
            case 7: return now.burnsOf(house);
            default: return refuse(OTHER);
        }
    }

    public int height(int cell) {
        return Land.isCell(cell) ? now.heights[cell] : refuse(NOBODY);
    }

    public int heaps(int cell, int v) {
        if (!Land.isCell(cell)) {
            return refuse(NOBODY);
        }
        int fault = outside(v, 0, MOST_HEIGHT);
        if (fault != 0) {
            return refuse(fault);
        }
        int before = now.heights[cell];
        now.putHeight(cell, v);
        return before;
    }

    public int moves(int house, int cell) {
        if (!now.isHouse(house) || !Land.isCell(cell)) {
            return refuse(NOBODY);
        }
        int before = now.cells[house];
        now.putHouse(house, cell);
        return before;
    }

    public int gives(int house, int v) {
        if (!now.isHouse(house)) {
            return refuse(NOBODY);
        }
        int fault = outside(v, 0, MOST_WICKS);
        if (fault != 0) {
            return refuse(fault);
        }
        now.addWicks(house, v);
        return now.wicks[house];
    }

    public int calls(int house) {
        if (!now.isHouse(house)) {
            return refuse(NOBODY);
        }
        now.switchCall(house);
        return now.isCalled(house) ? 1 : 0;
    }

    public int fog(int v) {
        int fault = outside(v, 0, MOST_FOG);
        if (fault != 0) {
            return refuse(fault);
        }
        int before = now.fog;
        now.fog = v;
        return before;
    }

    public int turn(int house, int kind, int figure) {
        if (!now.isHouse(house)) {
            return refuse(NOBODY);
        }
        if (kind < 0 || kind >= KINDS) {
            return refuse(OTHER);
        }
        int fault = outside(figure, 0, MOST_FIGURE);
        if (fault != 0) {
            return refuse(fault);
        }
        int before = 10 * now.kinds[house] + now.figures[house];
        now.kinds[house] = kind;
        now.figures[house] = figure;
        return before;
    }

    public int nights(int n) {
        int fault = outside(n, 1, MOST_NIGHTS);
        if (fault != 0) {
            return refuse(fault);
        }
        return now.goBy(n) ? Integer.bitCount(thought.hangingBehind(0)) : refuse(ROOM);
    }

    // ---- nights in mind ----

    public int litThen(int n) {
        int fault = outside(n, 0, MOST_NIGHTS);
        return fault != 0 ? refuse(fault) : thought.litBehind(n);
    }

    public int hangThen(int n) {
        int fault = outside(n, 0, MOST_NIGHTS);
        return fault != 0 ? refuse(fault) : thought.hangingBehind(n);
    }

    public int wicksThen(int house, int n) {
        if (!now.isHouse(house)) {
            return refuse(NOBODY);
        }
        int fault = outside(n, 0, MOST_NIGHTS);
        return fault != 0 ? refuse(fault) : thought.wicksBehind(house, n);
    }

    public int dark(int house) {
        return now.isHouse(house) ? thought.darkBehind(house) : refuse(NOBODY);
    }

    public int first(int what) {
        switch (what) {
            case 0: return thought.firstDark();
            case 1: return thought.wholeBehind();
            default: return refuse(OTHER);
        }
    }

    // ---- sight, and what would change it ----

    public int sees(int house) {
        return now.isHouse(house) ? thought.seenBy(house) : refuse(NOBODY);
    }

    public int hill(int one, int other) {
        return areTwo(one, other) ? thought.cellInTheWay(one, other) : refuse(NOBODY);
    }

    public int leastEye(int house) {
        return now.isHouse(house) ? thought.leastCandle(house) : refuse(NOBODY);
    }

    public int cut(int what) {
        switch (what) {
            case 0: return thought.cutHouse();
            case 1: return thought.hangingAfterCut();
            case 2: return thought.needed();
            default: return refuse(OTHER);
        }
    }

    public int build(int what) {
        switch (what) {
            case 0: return thought.buildCell();
            case 1: return thought.hangingIfBuilt(thought.buildCell());
            default: return refuse(OTHER);
        }
    }

    public int fell() {
        return thought.cellToFell();
    }

    public int raise() {
        return thought.houseToRaise();
    }

    public int call(int n) {
        int fault = outside(n, 0, 12);
        return fault != 0 ? refuse(fault) : thought.fewestCalled(n);
    }

    public int news(int house, int what) {
        if (!now.isHouse(house)) {
            return refuse(NOBODY);
        }
        switch (what) {
            case 0: return thought.newsLength(house);
            case 1: return thought.newsNext(house);
            default: return refuse(OTHER);
        }
    }

    public int farthest() {
        return thought.farthestHouse();
    }

    public int spend(int n) {
        int fault = outside(n, 0, MOST_NIGHTS);
        return fault != 0 ? refuse(fault) : thought.burntIn(n);
    }

    public int share(int n) {
        int fault = outside(n, 0, 30);
        return fault != 0 ? refuse(fault) : thought.bestForAWick(n);
    }

    public int longest(int n) {
        int fault = outside(n, 0, MOST_NIGHTS);
        return fault != 0 ? refuse(fault) : thought.mostHanging(n);
    }

    public int fogged() {
        return thought.leastFogOfNobody();
    }

    public int highest() {
        int best = 0;
        for (int cell = 1; cell < CELLS; cell++) {
            if (now.heights[cell] > now.heights[best]) {
                best = cell;
            }
        }
        return best;
    }

    public int two(int a, int b) {
        return areTwo(a, b) ? thought.pairAtRest(a, b) : refuse(NOBODY);
    }

    public long mist(int house, int n, int t, int part) {
        if (!now.isHouse(house)) {
            return refuseLong(NOBODY);
        }
        if (n < 0 || t < 2) {
            return refuseLong(BELOW);
        }
        if (n > 7 || t > 20) {
            return refuseLong(ROOM);
        }
        if (part != 0 && part != 1) {
            return refuseLong(OTHER);
        }
        return inLeastTerms(thought.mistAbove(house, n, t), power(t, n), part);
    }

    public long mean(int part) {
        if (part != 0 && part != 1) {
            return refuseLong(OTHER);
        }
        long sum = 0;
        for (int cell = 0; cell < CELLS; cell++) {
            sum += now.heights[cell];
        }
        return inLeastTerms(sum, CELLS, part);
    }

    // ---- the row, lots, the image ----

    public int whoSlept() {
        return thought.housesThatSlept(numbers, inRow);
    }

    public int whatIs(int house, int what) {
        if (!now.isHouse(house)) {
            return refuse(NOBODY);
        }
        switch (what) {
            case 0: return thought.kindsThatFit(house, numbers, inRow);
            case 1: return thought.figuresThatFit(house, numbers, inRow);
            default: return refuse(OTHER);
        }
    }

    public int row(int v) {
        if (v < 0) {
            return refuse(BELOW);
        }
        if (v > MOST_NUMBER || inRow >= MOST_IN_ROW) {
            return refuse(ROOM);
        }
        numbers[inRow] = v;
        inRow++;
        return inRow;
    }

    public int judge() {
        int wrong = NONE;
        for (int cell = 0; cell < inRow && wrong == NONE; cell++) {
            if (numbers[cell] != now.heights[cell]) {
                wrong = cell;
            }
        }
        inRow = 0;
        return wrong;
    }

    public int clear() {
        int had = inRow;
        inRow = 0;
        return had;
    }

    public int lots(int n, int z, int what) {
        int fault = outside(n, 1, 20);
        if (fault != 0) {
            return refuse(fault);
        }
        if (what != 0 && what != 1) {
            return refuse(OTHER);
        }
        return thought.nightsByLot(n, z, what == 0);
    }

    public int image() {
        kept.become(now);
        keptThere = true;
        return now.night;
    }

    public int on() {
        if (!keptThere) {
            return refuse(STATE);
        }
        now.become(kept);
        return now.night;
    }

    public int count(int what) {
        switch (what) {
            case 0: return now.houses;
            case 1: return now.night;
            case 2: return now.fog;
            case 3: return now.lit();
            case 4: return thought.hangingBehind(0);
            case 5: return now.allWicks();
            case 6: return inRow;
            case 7: return letters.length;
            default: return refusalsCounted(what - 10);
        }
    }

    // ---- what the face needs itself ----

    private int refuse(int refusal) {
        if (-refusal > 0 && -refusal <= REFUSAL_KINDS) {
            refusals[-refusal]++;
        }
        return refusal;
    }

    private long refuseLong(int refusal) {
        return LONG_REFUSAL - refuse(refusal);
    }

    private int refusalsCounted(int kind) {
        return kind >= 1 && kind <= REFUSAL_KINDS ? refusals[kind] : NONE;
    }

    private boolean areTwo(int one, int other) {
        return now.isHouse(one) && now.isHouse(other) && one != other;
    }

    private static int outside(int v, int least, int most) {
        if (v < least) {
            return BELOW;
        }
        return v > most ? ROOM : 0;
    }

    private static long power(long base, int exponent) {
        long product = 1;
        for (int i = 0; i < exponent; i++) {
            product *= base;
        }
        return product;
    }

    private static long inLeastTerms(long above, long below, int part) {
        long divisor = commonDivisor(above, below);
        if (divisor <= 0) {
            return 0;
        }
        return (part == 0 ? above : below) / divisor;
    }

    private static long commonDivisor(long one, long other) {
        long a = one;
        long b = other;
        // Euclid needs fewer than 100 steps for any two longs.
        for (int step = 0; step < 100 && b != 0; step++) {
            long rest = a % b;
            a = b;
            b = rest;
        }
        return a;
    }

    private static boolean has(int bits, int place) {
        return (bits >> place & 1) != 0;
    }

    /** What the kinds of houses have of their own. */
    private static final class Kinds {
        static int candleOf(int kind, int figure) {
            switch (kind) {
                case TOWER: return 1 + figure / 2;
                case MIRROR: return 1 + figure / 2 + 2;
                case LOW: return 0;
                default: return 1;
            }
        }

        static boolean sleepsIn(int kind, int figure, int night) {
            int every = figure + 2;
            switch (kind) {
                case SLEEPER:
                case LOW: return every > 0 && night % every == 0;
                case OLD: return every > 0 && night % every == 0 || night % 3 == 0;
                case MIRROR: return night % 2 != 0;
                default: return false;
            }
        }

        static int burnsOf(int kind) {
            switch (kind) {
                case TOWER:
                case MIRROR:
                case OLD: return 2;
                default: return 1;
            }
        }
    }

    /** All that an image holds: heights, houses, fog and night. */
    private static final class Land {
        // BUILD thinks of one house more than there is room for.
        static final int MOST_IN_MIND = MOST_HOUSES + 1;

        final int[] heights = new int[CELLS];
        final int[] kinds = new int[MOST_IN_MIND];
        final int[] figures = new int[MOST_IN_MIND];
        final int[] cells = new int[MOST_IN_MIND];
        final int[] wicks = new int[MOST_IN_MIND];
        int houses;
        int called;
        int fog;
        int night;

        void become(Land other) {
            System.arraycopy(other.heights, 0, heights, 0, CELLS);
            System.arraycopy(other.kinds, 0, kinds, 0, MOST_IN_MIND);
            System.arraycopy(other.figures, 0, figures, 0, MOST_IN_MIND);
            System.arraycopy(other.cells, 0, cells, 0, MOST_IN_MIND);
            System.arraycopy(other.wicks, 0, wicks, 0, MOST_IN_MIND);
            houses = other.houses;
            called = other.called;
            fog = other.fog;
            night = other.night;
        }

        static boolean isCell(int cell) {
            return cell >= 0 && cell < CELLS;
        }

        boolean isHouse(int house) {
            return house >= 0 && house < houses;
        }

        int allHouses() {
            return (1 << houses) - 1;
        }

        // Each change below says whether it could be made, and changes nothing if not.

        boolean putHeight(int cell, int height) {
            if (!isCell(cell)) {
                return false;
            }
            heights[cell] = height;
            return true;
        }

        boolean addHouse(int kind, int figure, int cell) {
            if (houses >= MOST_IN_MIND || !isCell(cell)) {
                return false;
            }
            kinds[houses] = kind;
            figures[houses] = figure;
            cells[houses] = cell;
            wicks[houses] = FIRST_WICKS;
            houses++;
            return true;
        }

        boolean putHouse(int house, int cell) {
            if (!isHouse(house) || !isCell(cell)) {
                return false;
            }
            cells[house] = cell;
            return true;
        }

        boolean addWicks(int house, int more) {
            if (!isHouse(house)) {
                return false;
            }
            wicks[house] = Math.min(MOST_WICKS, wicks[house] + more);
            return true;
        }

        boolean switchCall(int house) {
            if (!isHouse(house)) {
                return false;
            }
            called ^= 1 << house;
            return true;
        }

        boolean goBy(int n) {
            if (n < 1 || n > MOST_NIGHTS || night + n > MOST_NIGHT) {
                return false;
            }
            for (int i = 0; i < n; i++) {
                passNight();
            }
            return true;
        }

        void putCalled(int house, boolean sitsUp) {
            called = sitsUp ? called | 1 << house : called & ~(1 << house);
        }

        boolean isCalled(int house) {
            return has(called, house);
        }

        int eyeOf(int house) {
            return heights[cells[house]] + Kinds.candleOf(kinds[house], figures[house]);
        }

        int burnsOf(int house) {
            return Kinds.burnsOf(kinds[house]);
        }

        boolean isLit(int house) {
            return wicks[house] >= Kinds.burnsOf(kinds[house])
                && (has(called, house) || !Kinds.sleepsIn(kinds[house], figures[house], night));
        }

        int lit() {
            int bits = 0;
            for (int house = 0; house < houses; house++) {
                if (isLit(house)) {
                    bits |= 1 << house;
                }
            }
            return bits;
        }

        int allWicks() {
            int sum = 0;
            for (int house = 0; house < houses; house++) {
                sum += wicks[house];
            }
            return sum;
        }

        void passNight() {
            for (int house = 0; house < houses; house++) {
                if (isLit(house)) {
                    wicks[house] -= Kinds.burnsOf(kinds[house]);
                }
            }
            night++;
        }

        void passNights(int n) {
            for (int i = 0; i < n; i++) {
                passNight();
            }
        }
    }

    /** Who sees whom in a land, and who hangs on the sea if so many are lit. */
    private static final class Sight {
        final int[] eyes = new int[Land.MOST_IN_MIND];
        final int[] seen = new int[Land.MOST_IN_MIND];
        int seaSeers;
        private int houses;

        void lookOver(Land land) {
            measure(land);
            look(land);
        }

        void measure(Land land) {
            houses = land.houses;
            for (int house = 0; house < houses; house++) {
                eyes[house] = land.eyeOf(house);
            }
        }

        void look(Land land) {
            seaSeers = 0;
            for (int house = 0; house < houses; house++) {
                seen[house] = 0;
                if (isOpen(land, land.cells[house], eyes[house], SEA, 0)) {
                    seaSeers |= 1 << house;
                }
                for (int other = 0; other < house; other++) {
                    if (isOpen(land, land.cells[house], eyes[house], land.cells[other], eyes[other])) {
                        seen[house] |= 1 << other;
                        seen[other] |= 1 << house;
                    }
                }
            }
        }

        static boolean isOpen(Land land, int one, int eyeOne, int other, int eyeOther) {
            int from = Math.min(one, other);
            int to = Math.max(one, other);
            if (to - from > CELLS - 2 * land.fog) {
                return false;
            }
            int eyeFrom = one <= other ? eyeOne : eyeOther;
            int eyeTo = one <= other ? eyeOther : eyeOne;
            for (int cell = from + 1; cell < to; cell++) {
                if (aboveLine(land, cell, from, eyeFrom, to, eyeTo) >= 0) {
                    return false;
                }
            }
            return true;
        }

        // Times the distance of the two, so that it stays whole.
        static int aboveLine(Land land, int cell, int from, int eyeFrom, int to, int eyeTo) {
            int height = cell >= 0 && cell < CELLS ? land.heights[cell] : 0;
            return height * (to - from) - eyeFrom * (to - cell) - eyeTo * (cell - from);
        }

        int hanging(int lit) {
            int hang = lit & seaSeers;
            int fresh = hang;
            for (int round = 0; round < houses && fresh != 0; round++) {
                fresh = seeing(lit & ~hang, fresh);
                hang |= fresh;
            }
            return hang;
        }

        int seeing(int some, int others) {
            int bits = 0;
            for (int house = 0; house < houses; house++) {
                if (has(some, house) && (seen[house] & others) != 0) {
                    bits |= 1 << house;
                }
            }
            return bits;
        }
    }

    /** The letters told so far, and how a land is read out of them. */
    private static final class Letters {
        final int[] text = new int[MOST_LETTERS];
        int length;
        int statements;

        boolean isFull() {
            return length >= MOST_LETTERS;
        }

        int add(int c) {
            if (!isFull()) {
                text[length] = c;
                length++;
            }
            return length;
        }

        void forget() {
            length = 0;
        }

        // What stands behind a statement's first letter: k a kind, d a digit; empty for no statement.
        private static String formBehind(int first) {
            switch (first) {
                case 'c':
                case 'm':
                case 'w': return "ddd;";
                case 'h': return "kddd;";
                case 'u':
                case 'f': return "d;";
                case 'n': return "dd;";
                default: return "";
            }
        }

        private static boolean fits(char form, int c) {
            switch (form) {
                case 'd': return c >= '0' && c <= '9';
                case 'k': return KIND_LETTERS.indexOf((char) c) >= 0;
                default: return c == form;
            }
        }

        /** The first place with which no land can go on; -1 if the text is one. */
        int brokenPlace() {
            if (length == 0) {
                return 0;
            }
            int at = 0;
            while (at < length) {
                String form = formBehind(text[at]);
                if (form.isEmpty()) {
                    return at;
                }
                at++;
                for (int i = 0; i < form.length(); i++) {
                    if (at >= length || !fits(form.charAt(i), text[at])) {
                        return at;
                    }
                    at++;
                }
            }
            return -1;
        }

        /** Tells the land the statements of an unbroken text; the place of the first it can't take, or -1. */
        int refusedPlace(Land land) {
            statements = 0;
            int at = 0;
            while (at < length) {
                if (!comes(at, land)) {
                    return at;
                }
                statements++;
                at += 1 + formBehind(text[at]).length();
            }
            return -1;
        }

        private boolean comes(int at, Land land) {
            switch (text[at]) {
                case 'c': return land.putHeight(twoDigits(at + 1), digit(at + 3));
                case 'h': return land.houses < MOST_HOUSES
                    && land.addHouse(kindAt(at + 1), digit(at + 2), twoDigits(at + 3));
                case 'm': return land.putHouse(digit(at + 1), twoDigits(at + 2));
                case 'w': return land.addWicks(digit(at + 1), twoDigits(at + 2));
                case 'u': return land.switchCall(digit(at + 1));
                case 'n': return land.goBy(twoDigits(at + 1));
                default:
                    land.fog = digit(at + 1);
                    return true;
            }
        }

        private int kindAt(int at) {
            return at < length ? KIND_LETTERS.indexOf((char) text[at]) : COTTAGE;
        }

        private int digit(int at) {
            return at < length ? text[at] - '0' : 0;
        }

        private int twoDigits(int at) {
            return 10 * digit(at) + digit(at + 1);
        }
    }

    /** The questions: each is thought through on a copy, so that none changes the land. */
    private static final class Thought {
        final Land now = new Land();
        private final Land mind = new Land();
        private final Sight sight = new Sight();
        private final Sight misty = new Sight();
        private final int[] ways = new int[Land.MOST_IN_MIND];
        private final int[] gainsOne = new int[4];
        private final int[] gainsOther = new int[4];

        private void begin() {
            mind.become(now);
            sight.measure(mind);
            sight.look(mind);
        }

        private int hangers() {
            return sight.hanging(mind.lit());
        }

        private int hangTogether(int n) {
            int sum = 0;
            for (int behind = 0; behind <= n; behind++) {
                sum += Integer.bitCount(sight.hanging(mind.lit()));
                mind.passNight();
            }
            return sum;
        }

        int litBehind(int n) {
            mind.become(now);
            mind.passNights(n);
            return mind.lit();
        }

        int hangingBehind(int n) {
            begin();
            mind.passNights(n);
            return hangers();
        }

        int wicksBehind(int house, int n) {
            mind.become(now);
            mind.passNights(n);
            return mind.wicks[house];
        }

        int darkBehind(int house) {
            begin();
            for (int behind = 0; behind <= MOST_NIGHTS; behind++) {
                if (!has(hangers(), house)) {
                    return behind;
                }
                mind.passNight();
            }
            return NONE;
        }

        int firstDark() {
            begin();
            int hangingNow = hangers();
            for (int behind = 0; behind <= MOST_NIGHTS; behind++) {
                int gone = hangingNow & ~hangers();
                if (gone != 0) {
                    return Integer.numberOfTrailingZeros(gone);
                }
                mind.passNight();
            }
            return NONE;
        }

        int wholeBehind() {
            begin();
            for (int behind = 0; behind <= MOST_NIGHTS; behind++) {
                if (hangers() == mind.allHouses()) {
                    return behind;
                }
                mind.passNight();
            }
            return NONE;
        }

        int seenBy(int house) {
            begin();
            return sight.seen[house] | (has(sight.seaSeers, house) ? 1 << SEA_AS_HOUSE : 0);
        }

        int cellInTheWay(int one, int other) {
            begin();
            int west = mind.cells[one] <= mind.cells[other] ? one : other;
            int east = west == one ? other : one;
            int from = mind.cells[west];
            int to = mind.cells[east];
            int best = NONE;
            int most = 0;
            for (int cell = from + 1; cell < to; cell++) {
                int above = Sight.aboveLine(mind, cell, from, sight.eyes[west], to, sight.eyes[east]);
                if (best == NONE || above > most) {
                    best = cell;
                    most = above;
                }
            }
            return best;
        }

        int leastCandle(int house) {
            int cell = now.cells[house];
            for (int candle = 0; candle <= 30; candle++) {
                if (Sight.isOpen(now, cell, now.heights[cell] + candle, SEA, 0)) {
                    return candle;
                }
            }
            return NONE;
        }

        int cutHouse() {
            begin();
            int lit = mind.lit();
            int best = NONE;
            int fewest = 0;
            for (int house = 0; house < mind.houses; house++) {
                if (has(lit, house)) {
                    int left = hangingWithout(lit, house);
                    if (best == NONE || left < fewest) {
                        best = house;
                        fewest = left;
                    }
                }
            }
            return best;
        }

        private int hangingWithout(int lit, int house) {
            return Integer.bitCount(sight.hanging(lit & ~(1 << house)));
        }

        int hangingAfterCut() {
            int house = cutHouse();
            return house == NONE ? NONE : hangingWithout(mind.lit(), house);
        }

        int needed() {
            begin();
            int lit = mind.lit();
            int hang = sight.hanging(lit);
            int bits = 0;
            for (int house = 0; house < mind.houses; house++) {
                int gone = hang & ~sight.hanging(lit & ~(1 << house));
                if ((gone & ~(1 << house)) != 0) {
                    bits |= 1 << house;
                }
            }
            return bits;
        }

        int buildCell() {
            int best = 0;
            int most = 0;
            for (int cell = 0; cell < CELLS; cell++) {
                int hang = hangingIfBuilt(cell);
                if (hang > most) {
                    best = cell;
                    most = hang;
                }
            }
            return best;
        }

        int hangingIfBuilt(int cell) {
            mind.become(now);
            mind.addHouse(COTTAGE, 0, cell);
            sight.lookOver(mind);
            return Integer.bitCount(hangers());
        }

        int cellToFell() {
            begin();
            int best = NONE;
            int most = Integer.bitCount(hangers());
            for (int cell = 0; cell < CELLS; cell++) {
                mind.become(now);
                mind.putHeight(cell, 0);
                sight.lookOver(mind);
                int hang = Integer.bitCount(hangers());
                if (hang > most) {
                    best = cell;
                    most = hang;
                }
            }
            return best;
        }

        int houseToRaise() {
            begin();
            int best = NONE;
            int most = Integer.bitCount(hangers());
            for (int house = 0; house < mind.houses; house++) {
                sight.measure(mind);
                sight.eyes[house] += 3;
                sight.look(mind);
                int hang = Integer.bitCount(hangers());
                if (hang > most) {
                    best = house;
                    most = hang;
                }
            }
            return best;
        }

        int fewestCalled(int n) {
            begin();
            int best = mind.allHouses();
            int goal = togetherIfCalled(best, n);
            for (int some = 0; some < now.allHouses(); some++) {
                if (Integer.bitCount(some) < Integer.bitCount(best) && togetherIfCalled(some, n) >= goal) {
                    best = some;
                }
            }
            return best;
        }

        // Who is called changes no sight, so that one look serves all of these.
        private int togetherIfCalled(int some, int n) {
            mind.become(now);
            mind.called = some;
            return hangTogether(n);
        }

        private void measureWays() {
            begin();
            Arrays.fill(ways, 0);
            int unreached = hangers();
            int fresh = unreached & sight.seaSeers;
            for (int length = 1; length <= mind.houses && fresh != 0; length++) {
                for (int house = 0; house < mind.houses; house++) {
                    if (has(fresh, house)) {
                        ways[house] = length;
                    }
                }
                unreached &= ~fresh;
                fresh = sight.seeing(unreached, fresh);
            }
        }

        int newsLength(int house) {
            measureWays();
            return ways[house] == 0 ? NONE : ways[house];
        }

        int newsNext(int house) {
            measureWays();
            if (ways[house] == 0) {
                return NONE;
            }
            if (ways[house] == 1) {
                return SEA_AS_HOUSE;
            }
            for (int next = 0; next < mind.houses; next++) {
                if (has(sight.seen[house], next) && ways[next] == ways[house] - 1) {
                    return next;
                }
            }
            return NONE;
        }

        int farthestHouse() {
            measureWays();
            int best = NONE;
            int most = 0;
            for (int house = 0; house < mind.houses; house++) {
                if (ways[house] > most) {
                    best = house;
                    most = ways[house];
                }
            }
            return best;
        }

        int burntIn(int n) {
            mind.become(now);
            mind.passNights(n);
            return now.allWicks() - mind.allWicks();
        }

        int bestForAWick(int n) {
            begin();
            int most = hangTogether(n);
            int best = NONE;
            for (int house = 0; house < now.houses; house++) {
                mind.become(now);
                mind.addWicks(house, 1);
                int hang = hangTogether(n);
                if (hang > most) {
                    best = house;
                    most = hang;
                }
            }
            return best;
        }

        int mostHanging(int n) {
            begin();
            int most = 0;
            for (int behind = 0; behind <= n; behind++) {
                most = Math.max(most, Integer.bitCount(hangers()));
                mind.passNight();
            }
            return most;
        }

        int leastFogOfNobody() {
            mind.become(now);
            for (int fog = 0; fog <= MOST_FOG; fog++) {
                mind.fog = fog;
                sight.lookOver(mind);
                if (hangers() == 0) {
                    return fog;
                }
            }
            return NONE;
        }

        int pairAtRest(int a, int b) {
            begin();
            for (int pair = 0; pair < 4; pair++) {
                weighPair(pair, a, b);
            }
            for (int pair = 0; pair < 4; pair++) {
                if (gainsOne[pair] >= gainsOne[pair ^ 2] && gainsOther[pair] >= gainsOther[pair ^ 1]) {
                    return 10 * (pair / 2) + pair % 2;
                }
            }
            return NONE;
        }

        private void weighPair(int pair, int a, int b) {
            int costOne = pair / 2;
            int costOther = pair % 2;
            mind.become(now);
            mind.putCalled(a, costOne == 1);
            mind.putCalled(b, costOther == 1);
            gainsOne[pair] = 0;
            gainsOther[pair] = 0;
            for (int behind = 0; behind < 6; behind++) {
                int hang = hangers();
                gainsOne[pair] += (has(hang, a) ? 2 : 0) - costOne;
                gainsOther[pair] += (has(hang, b) ? 2 : 0) - costOther;
                mind.passNight();
            }
        }

        // Of t to the n even cases, those in which the house hangs in each night.
        long mistAbove(int house, int n, int t) {
            begin();
            mind.fog = MOST_FOG;
            misty.lookOver(mind);
            long cases = 1;
            for (int behind = 0; behind < n; behind++) {
                int lit = mind.lit();
                int clear = has(sight.hanging(lit), house) ? t - 1 : 0;
                int foggy = has(misty.hanging(lit), house) ? 1 : 0;
                cases *= clear + foggy;
                mind.passNight();
            }
            return cases;
        }

        private boolean isSo(int[] numbers, int inRow) {
            sight.lookOver(mind);
            for (int behind = 0; behind < inRow && behind < numbers.length; behind++) {
                if (Integer.bitCount(hangers()) != numbers[behind]) {
                    return false;
                }
                mind.passNight();
            }
            return true;
        }

        int housesThatSlept(int[] numbers, int inRow) {
            int bits = 0;
            for (int house = 0; house < now.houses; house++) {
                mind.become(now);
                mind.wicks[house] = 0;
                if (isSo(numbers, inRow)) {
                    bits |= 1 << house;
                }
            }
            return bits;
        }

        int kindsThatFit(int house, int[] numbers, int inRow) {
            int bits = 0;
            for (int kind = 0; kind < KINDS; kind++) {
                mind.become(now);
                mind.kinds[house] = kind;
                if (isSo(numbers, inRow)) {
                    bits |= 1 << kind;
                }
            }
            return bits;
        }

        int figuresThatFit(int house, int[] numbers, int inRow) {
            int bits = 0;
            for (int figure = 0; figure <= MOST_FIGURE; figure++) {
                mind.become(now);
                mind.figures[house] = figure;
                if (isSo(numbers, inRow)) {
                    bits |= 1 << figure;
                }
            }
            return bits;
        }

        int nightsByLot(int n, int seed, boolean hanging) {
            int z = seed;
            int sum = 0;
            for (int i = 0; i < n; i++) {
                mind.become(now);
                for (int house = 0; house < mind.houses; house++) {
                    z = nextSeed(z);
                    mind.cells[house] = drawn(z, CELLS);
                    z = nextSeed(z);
                    mind.wicks[house] = drawn(z, 5);
                }
                sight.lookOver(mind);
                mind.passNights(4);
                sum += hanging ? Integer.bitCount(hangers()) : mind.allWicks();
            }
            return sum;
        }

        private static int nextSeed(int z) {
            return z * 1664525 + 1013904223;
        }

        private static int drawn(int z, int below) {
            return below > 0 ? (z & 0x7fffffff) / 256 % below : 0;
        }
    }
}
