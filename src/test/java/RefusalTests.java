import java.util.Arrays;

/**
 * For each promise and each of its bounds: the last value that is taken and the first that is refused, on either
 * side, with the refusal's number, that its count is one more and that nothing else has changed; and where two
 * refusals fit, that the first in the promise's order is told. Each check has an object of its own.
 */
public final class RefusalTests {
    private static final int MIN = Integer.MIN_VALUE;
    private static final int MAX = Integer.MAX_VALUE;
    private static final long LONG = 4000000000000000000L;
    private static final int[] NO_CELLS = {MIN, -1, 20, 21, MAX};

    private interface Call {
        long of(Counted x);
    }

    private interface CallWith {
        long of(Counted x, int v);
    }

    /** Three lands to refuse in: without a HOUSE, with three, and with all full. */
    private enum Ground {
        NONE(3, 1), SOME(3, 2), FULL(3, 1, 4, 1, 5, 9, 2, 6, 5, 3, 5, 8, 9, 7, 9, 3);

        // Told numbers are below 10, so that hills can be made by which the ROW is right.
        final int[] row;

        Ground(int... row) {
            this.row = row;
        }

        Counted make() {
            Counted x = new Counted();
            refuseSome(x);
            switch (this) {
                case NONE: none(x); break;
                case SOME: some(x); break;
                default: full(x);
            }
            for (int v : row) {
                x.row(v);
            }
            letters(x, this == FULL ? FULL_TEXT : "c009;h");
            return x;
        }

        // How often each number was refused differs, so that a wrong counter shows.
        private static void refuseSome(Counted x) {
            x.height(20);
            x.first(2);
            x.first(2);
            for (int i = 0; i < 3; i++) {
                x.on();
            }
            for (int i = 0; i < 4; i++) {
                x.fog(-1);
            }
            for (int i = 0; i < 5; i++) {
                x.fog(10);
            }
        }

        // NIGHT 3, FOG 1, hills of 4, 1 and 2.
        private static void none(Counted x) {
            x.heaps(3, 1);
            x.heaps(19, 2);
            x.image();
            x.heaps(0, 4);
            x.fog(1);
            x.nights(3);
        }

        // NIGHT 3, FOG 1; the COTTAGE (EYE 3) stands on the hill that hides the SEA from the two others.
        private static void some(Counted x) {
            letters(x, "c031;c004;c192;hc019;hs217;ht910;w099;w199;f1;");
            x.land();
            x.image();
            x.nights(3);
        }

        // NIGHT 999, seven HOUSES on flat land, each with 50 WICKS.
        private static void full(Counted x) {
            letters(x, "hc019;ht318;hs217;hl416;hm115;ho014;hc019;");
            x.land();
            for (int i = 0; i < 16; i++) {
                x.nights(60);
            }
            x.image();
            x.nights(39);
            for (int house = 0; house < 7; house++) {
                x.gives(house, 50);
            }
        }
    }

    private static final String FULL_TEXT = "c001;c018;c025;c032;c049;c056;c063;c070;c087;c094;"
        + "c101;c118;c125;c132;c149;c156;c163;c170;f3;f4;";

    public static void main(String[] args) {
        grounds();
        letter();
        house();
        height();
        heaps();
        moves();
        gives();
        calls();
        fog();
        turn();
        nights();
        inMind();
        dark();
        first();
        sees();
        hill();
        leastEye();
        cut();
        build();
        call();
        news();
        two();
        mist();
        mistOrder();
        mean();
        whatIs();
        row();
        lots();
        on();
        count();
        neverRefused();
        Check.end("RefusalTests");
    }

    // ---- helpers ----

    private static void letters(Counted x, String text) {
        for (int i = 0; i < text.length(); i++) {
            x.letter(text.charAt(i));
        }
    }

    private static String state(Counted x) {
        StringBuilder s = new StringBuilder();
        for (int what = 0; what <= 7; what++) {
            s.append(x.count(what)).append(' ');
        }
        for (int cell = 0; cell < 20; cell++) {
            s.append(x.height(cell)).append(',');
        }
        int houses = x.count(0);
        for (int house = 0; house < houses; house++) {
            for (int what = 0; what <= 4; what++) {
                s.append(x.house(house, what)).append(what == 4 ? ';' : ' ');
            }
        }
        return s.toString();
    }

    private static int[] refusals(Counted x) {
        int[] counts = new int[6];
        for (int i = 0; i < 6; i++) {
            counts[i] = x.count(11 + i);
        }
        return counts;
    }

    /** All that there is, the ROW, the letters and THE IMAGE, too; the object is used up by it. */
    private static String everything(Counted x, Ground ground) {
        StringBuilder s = new StringBuilder(state(x));
        for (int cell = 0; cell < ground.row.length; cell++) {
            x.heaps(cell, ground.row[cell]);
        }
        s.append("| row ").append(x.judge());
        s.append("| land ").append(x.land()).append(' ').append(state(x));
        s.append("| on ").append(x.on()).append(' ').append(state(x));
        return s.toString();
    }

    private static void refused(String name, Ground ground, int number, Call call) {
        Counted x = ground.make();
        int[] counts = refusals(x);
        Check.due(name, call.of(x), number);
        counts[-number - 1]++;
        Check.same(name + " counts", Arrays.toString(refusals(x)), Arrays.toString(counts));
        Check.same(name + " changes", everything(x, ground), everything(ground.make(), ground));
    }

    private static void refusedLong(String name, Ground ground, int number, Call call) {
        refused(name, ground, number, x -> {
            long got = call.of(x);
            return got == LONG - number ? number : got;
        });
    }

    /** The call is taken: it answers what is due, and nothing is counted. */
    private static void taken(String name, Ground ground, long due, Call call) {
        Counted x = ground.make();
        int[] counts = refusals(x);
        Check.due(name, call.of(x), due);
        Check.same(name + " counts", Arrays.toString(refusals(x)), Arrays.toString(counts));
    }

    /** As taken, and nothing has changed at all. */
    private static void asked(String name, Ground ground, long due, Call call) {
        taken(name, ground, due, call);
        Counted x = ground.make();
        call.of(x);
        Check.same(name + " changes", everything(x, ground), everything(ground.make(), ground));
    }

    private static void eachRefused(String name, Ground ground, int number, int[] values, CallWith call) {
        for (int v : values) {
            refused(name + " with " + v, ground, number, x -> call.of(x, v));
        }
    }

    /** -1 of each number that is no HOUSE: without any, behind the last of three, behind the last of seven. */
    private static void noHouse(String name, CallWith call) {
        eachRefused(name + " (no houses)", Ground.NONE, -1, new int[] {MIN, -1, 0, 1, 6, 7, MAX}, call);
        eachRefused(name + " (three)", Ground.SOME, -1, new int[] {MIN, -1, 3, 4, 6, 7, 8, MAX}, call);
        eachRefused(name + " (seven)", Ground.FULL, -1, new int[] {MIN, -1, 7, 8, MAX}, call);
    }

    private static void noWhat(String name, Ground ground, int most, CallWith call) {
        eachRefused(name + ", what", ground, -2, new int[] {MIN, -1, most + 1, most + 2, MAX}, call);
    }

    private static void outOfRange(String name, Ground ground, int least, int most, CallWith call) {
        eachRefused(name, ground, -4, new int[] {MIN, least - 1}, call);
        eachRefused(name, ground, -6, new int[] {most + 1, MAX}, call);
    }

    // ---- what the checks stand on ----

    private static void grounds() {
        for (Ground ground : Ground.values()) {
            Counted x = ground.make();
            Check.same(ground + ": refusals", Arrays.toString(refusals(x)), "[1, 2, 3, 4, 0, 5]");
            Check.due(ground + ": houses", x.count(0), ground == Ground.NONE ? 0 : ground == Ground.SOME ? 3 : 7);
            Check.due(ground + ": night", x.count(1), ground == Ground.FULL ? 999 : 3);
            Check.due(ground + ": row", x.count(6), ground == Ground.FULL ? 16 : 2);
            Check.due(ground + ": letters", x.count(7), ground == Ground.FULL ? 96 : 6);
            String all = everything(x, ground);
            String due = ground == Ground.FULL ? "| row -9| land 20 " : "| row -9| land -1006 ";
            Check.due(ground + ": the row and the letters show", all.contains(due) ? 1 : 0, 1);
            String night = ground == Ground.FULL ? "| on 960 " : "| on 0 ";
            Check.due(ground + ": the image shows", all.contains(night) ? 1 : 0, 1);
        }
    }

    // ---- 2: "A letter (0 .. 255) comes: how many there are. -4; -6 (255; 96, too)." ----

    private static void letter() {
        outOfRange("2: letter", Ground.SOME, 0, 255, Counted::letter);
        taken("2: letter(0)", Ground.SOME, 7, x -> x.letter(0));
        taken("2: letter(255)", Ground.SOME, 7, x -> x.letter(255));
        for (int c : new int[] {0, 99, 255}) {
            refused("2: the 97th letter " + c, Ground.FULL, -6, x -> x.letter(c));
        }
        refused("2: -4 ahead of -6 (96)", Ground.FULL, -4, x -> x.letter(-1));
        refused("2: -6 twice is one", Ground.FULL, -6, x -> x.letter(256));
        Counted x = new Counted();
        for (int i = 1; i <= 96; i++) {
            Check.due("2: the letter " + i, x.letter(59), i);
        }
        Check.due("2: the letter 97", x.letter(59), -6);
        Check.due("2: 96 letters", x.count(7), 96);
    }

    // ---- 4: "-1; -2." ----

    private static void house() {
        for (int what = 0; what <= 7; what++) {
            int w = what;
            noHouse("4: house, what " + what, (x, h) -> x.house(h, w));
        }
        noWhat("4: house", Ground.SOME, 7, (x, w) -> x.house(2, w));
        noWhat("4: house", Ground.FULL, 7, (x, w) -> x.house(6, w));
        int[][] due = {{0, 0, 19, 96, 0, 1, 3, 1}, {2, 2, 17, 97, 0, 1, 1, 1}, {1, 9, 10, 14, 0, 1, 5, 2}};
        for (int house = 0; house < 3; house++) {
            for (int what = 0; what <= 7; what++) {
                int h = house;
                int w = what;
                asked("4: house(" + h + ", " + w + ")", Ground.SOME, due[h][w], x -> x.house(h, w));
            }
        }
        asked("4: the seventh", Ground.FULL, 50, x -> x.house(6, 3));
        refused("4: -1 ahead of -2", Ground.SOME, -1, x -> x.house(3, 8));
        refused("4: -1 ahead of -2", Ground.NONE, -1, x -> x.house(0, -1));
    }

    // ---- 5, 6: "-1." and "-1; -4; -6 9." ----

    private static void height() {
        eachRefused("5: height", Ground.SOME, -1, NO_CELLS, Counted::height);
        asked("5: height(0)", Ground.SOME, 4, x -> x.height(0));
        asked("5: height(19)", Ground.SOME, 2, x -> x.height(19));
    }

    private static void heaps() {
        eachRefused("6: heaps, cell", Ground.SOME, -1, NO_CELLS, (x, c) -> x.heaps(c, 0));
        eachRefused("6: heaps, cell and 9", Ground.SOME, -1, NO_CELLS, (x, c) -> x.heaps(c, 9));
        eachRefused("6: -1 ahead of -4", Ground.SOME, -1, NO_CELLS, (x, c) -> x.heaps(c, -1));
        eachRefused("6: -1 ahead of -6", Ground.SOME, -1, NO_CELLS, (x, c) -> x.heaps(c, 10));
        outOfRange("6: heaps(0, v)", Ground.SOME, 0, 9, (x, v) -> x.heaps(0, v));
        outOfRange("6: heaps(19, v)", Ground.NONE, 0, 9, (x, v) -> x.heaps(19, v));
        taken("6: heaps(0, 0)", Ground.SOME, 4, x -> x.heaps(0, 0));
        taken("6: heaps(19, 9)", Ground.SOME, 2, x -> x.heaps(19, 9));
        taken("6: it becomes 0", Ground.SOME, 40, x -> 10 * x.heaps(0, 0) + x.height(0));
        taken("6: it becomes 9", Ground.SOME, 29, x -> 10 * x.heaps(19, 9) + x.height(19));
    }

    // ---- 7: "-1 either." ----

    private static void moves() {
        noHouse("7: moves to 0", (x, h) -> x.moves(h, 0));
        noHouse("7: moves to 19", (x, h) -> x.moves(h, 19));
        noHouse("7: either is one refusal", (x, h) -> x.moves(h, 20));
        eachRefused("7: moves(0, cell)", Ground.SOME, -1, NO_CELLS, (x, c) -> x.moves(0, c));
        eachRefused("7: moves(6, cell)", Ground.FULL, -1, NO_CELLS, (x, c) -> x.moves(6, c));
        taken("7: moves(0, 0)", Ground.SOME, 19, x -> x.moves(0, 0));
        taken("7: moves(2, 19)", Ground.SOME, 10, x -> x.moves(2, 19));
        taken("7: it is there", Ground.SOME, 1019, x -> 100 * x.moves(2, 19) + x.house(2, 2));
        taken("7: moves(6, 0)", Ground.FULL, 1900, x -> 100 * x.moves(6, 0) + x.house(6, 2));
    }

    // ---- 8: "-1; -4; -6 99." ----

    private static void gives() {
        noHouse("8: gives 0", (x, h) -> x.gives(h, 0));
        noHouse("8: -1 ahead of -4", (x, h) -> x.gives(h, -1));
        noHouse("8: -1 ahead of -6", (x, h) -> x.gives(h, 100));
        outOfRange("8: gives(0, v)", Ground.SOME, 0, 99, (x, v) -> x.gives(0, v));
        outOfRange("8: gives(6, v)", Ground.FULL, 0, 99, (x, v) -> x.gives(6, v));
        taken("8: gives(0, 0)", Ground.SOME, 96, x -> x.gives(0, 0));
        taken("8: gives(2, 99), 99 at most", Ground.SOME, 99, x -> x.gives(2, 99));
        taken("8: 99 at most", Ground.SOME, 98, x -> x.gives(2, 84));
        taken("8: 99 at most", Ground.SOME, 99, x -> x.gives(2, 85));
        taken("8: 99 at most", Ground.SOME, 99, x -> x.gives(2, 86));
        taken("8: gives(6, 0)", Ground.FULL, 50, x -> x.gives(6, 0));
    }

    // ---- 9, 10, 11: "-1.", "-4; -6 9.", "-1; -2; -4; -6 9." ----

    private static void calls() {
        noHouse("9: calls", Counted::calls);
        taken("9: calls(0)", Ground.SOME, 1, x -> x.calls(0));
        taken("9: calls(2)", Ground.SOME, 1, x -> x.calls(2));
        taken("9: calls(6)", Ground.FULL, 1, x -> x.calls(6));
        taken("9: not any more", Ground.FULL, 10, x -> 10 * x.calls(6) + x.calls(6));
    }

    private static void fog() {
        outOfRange("10: fog", Ground.SOME, 0, 9, Counted::fog);
        outOfRange("10: fog", Ground.NONE, 0, 9, Counted::fog);
        taken("10: fog(0)", Ground.SOME, 10, x -> 10 * x.fog(0) + x.count(2));
        taken("10: fog(9)", Ground.SOME, 19, x -> 10 * x.fog(9) + x.count(2));
    }

    private static void turn() {
        noHouse("11: turn", (x, h) -> x.turn(h, 0, 0));
        noHouse("11: -1 ahead of -2", (x, h) -> x.turn(h, 6, 0));
        noHouse("11: -1 ahead of -4", (x, h) -> x.turn(h, 0, -1));
        noHouse("11: -1 ahead of -6", (x, h) -> x.turn(h, 0, 10));
        noHouse("11: -1 ahead of all", (x, h) -> x.turn(h, -1, -1));
        int[] noKinds = {MIN, -1, 6, 7, MAX};
        eachRefused("11: turn, kind", Ground.SOME, -2, noKinds, (x, k) -> x.turn(2, k, 9));
        eachRefused("11: -2 ahead of -4", Ground.SOME, -2, noKinds, (x, k) -> x.turn(2, k, -1));
        eachRefused("11: -2 ahead of -6", Ground.SOME, -2, noKinds, (x, k) -> x.turn(2, k, 10));
        outOfRange("11: turn, figure", Ground.SOME, 0, 9, (x, f) -> x.turn(2, 0, f));
        outOfRange("11: turn, figure", Ground.FULL, 0, 9, (x, f) -> x.turn(6, 5, f));
        taken("11: turn(2, 0, 0)", Ground.SOME, 19, x -> x.turn(2, 0, 0));
        taken("11: turn(2, 5, 9)", Ground.SOME, 19, x -> x.turn(2, 5, 9));
        taken("11: they become others", Ground.SOME, 1959, x -> 100 * x.turn(2, 5, 9) + x.turn(2, 0, 0));
        taken("11: they become others", Ground.SOME, 2200, x -> 100 * x.turn(1, 0, 0) + x.turn(1, 5, 9));
        taken("11: turn(6, 5, 9)", Ground.FULL, 0, x -> x.turn(6, 5, 9));
    }

    // ---- 12: "n NIGHTS (1 .. 60) go by: how many HANG. -4; -6 (60; NIGHT above 999)." ----

    private static void nights() {
        outOfRange("12: nights", Ground.SOME, 1, 60, Counted::nights);
        // In NIGHT 4 the SLEEPER sleeps; behind 60 NIGHTS the TOWER's 14 WICKS are burnt.
        taken("12: nights(1)", Ground.SOME, 2, x -> x.nights(1));
        taken("12: nights(60)", Ground.SOME, 2, x -> x.nights(60));
        taken("12: nights(60), NIGHT", Ground.SOME, 2063, x -> 1000 * x.nights(60) + x.count(1));
        eachRefused("12: above 999", Ground.FULL, -6, new int[] {1, 2, 59, 60}, Counted::nights);
        refused("12: -4 ahead of -6 (999)", Ground.FULL, -4, x -> x.nights(0));
        refused("12: -4 ahead of -6 (999)", Ground.FULL, -4, x -> x.nights(MIN));
        refused("12: -6 twice is one", Ground.FULL, -6, x -> x.nights(61));
        for (int left : new int[] {1, 2, 59, 60}) {
            Counted x = atNight(999 - left);
            Check.due("12: one more than are left of " + left, x.nights(left + 1), -6);
            Check.due("12: NIGHT stays", x.count(1), 999 - left);
            Check.due("12: as many as are left of " + left, x.nights(left), 0);
            Check.due("12: NIGHT 999", x.count(1), 999);
        }
    }

    private static Counted atNight(int night) {
        Counted x = new Counted();
        for (int left = night; left > 0; left -= 60) {
            x.nights(Math.min(60, left));
        }
        return x;
    }

    // ---- 13, 14, 15, 25, 28, 29, 30: "-4; -6 60." and their like ----

    private static void inMind() {
        outOfRange("13: litThen", Ground.SOME, 0, 60, Counted::litThen);
        asked("13: litThen(0)", Ground.SOME, 7, x -> x.litThen(0));
        asked("13: litThen(60)", Ground.SOME, 3, x -> x.litThen(60));
        asked("13: litThen(60), no houses", Ground.NONE, 0, x -> x.litThen(60));
        outOfRange("14: hangThen", Ground.SOME, 0, 60, Counted::hangThen);
        asked("14: hangThen(0)", Ground.SOME, 7, x -> x.hangThen(0));
        asked("14: hangThen(60)", Ground.SOME, 3, x -> x.hangThen(60));
        asked("14: hangThen(60), no houses", Ground.NONE, 0, x -> x.hangThen(60));
        noHouse("15: wicksThen(house, 0)", (x, h) -> x.wicksThen(h, 0));
        noHouse("15: -1 ahead of -4", (x, h) -> x.wicksThen(h, -1));
        noHouse("15: -1 ahead of -6", (x, h) -> x.wicksThen(h, 61));
        outOfRange("15: wicksThen(2, n)", Ground.SOME, 0, 60, (x, n) -> x.wicksThen(2, n));
        outOfRange("15: wicksThen(6, n)", Ground.FULL, 0, 60, (x, n) -> x.wicksThen(6, n));
        asked("15: wicksThen(0, 0)", Ground.SOME, 96, x -> x.wicksThen(0, 0));
        // The SLEEPER sleeps in 4, 8, .. 60: 15 of the NIGHTS 3 .. 62.
        asked("15: wicksThen(1, 60)", Ground.SOME, 97 - 45, x -> x.wicksThen(1, 60));
        asked("15: wicksThen(2, 60)", Ground.SOME, 0, x -> x.wicksThen(2, 60));
        asked("15: wicksThen(6, 0)", Ground.FULL, 50, x -> x.wicksThen(6, 0));
        outOfRange("28: spend", Ground.SOME, 0, 60, Counted::spend);
        asked("28: spend(0)", Ground.SOME, 0, x -> x.spend(0));
        asked("28: spend(60)", Ground.SOME, 60 + 45 + 14, x -> x.spend(60));
        asked("28: spend(60), no houses", Ground.NONE, 0, x -> x.spend(60));
        outOfRange("29: share", Ground.SOME, 0, 30, Counted::share);
        outOfRange("29: share", Ground.NONE, 0, 30, Counted::share);
        // A TOWER with 15 WICKS is lit in as many NIGHTS as with 14.
        asked("29: share(0)", Ground.SOME, -9, x -> x.share(0));
        asked("29: share(30)", Ground.SOME, -9, x -> x.share(30));
        asked("29: share(30), no houses", Ground.NONE, -9, x -> x.share(30));
        outOfRange("30: longest", Ground.SOME, 0, 60, Counted::longest);
        asked("30: longest(0)", Ground.SOME, 3, x -> x.longest(0));
        asked("30: longest(60)", Ground.SOME, 3, x -> x.longest(60));
        asked("30: longest(60), no houses", Ground.NONE, 0, x -> x.longest(60));
    }

    // ---- 16 .. 22 ----

    private static void dark() {
        noHouse("16: dark", Counted::dark);
        asked("16: dark(0)", Ground.SOME, -9, x -> x.dark(0));
        asked("16: dark(1)", Ground.SOME, 1, x -> x.dark(1));
        asked("16: dark(2)", Ground.SOME, 7, x -> x.dark(2));
        asked("16: dark(6)", Ground.FULL, 50, x -> x.dark(6));
    }

    private static void first() {
        noWhat("17: first", Ground.NONE, 1, Counted::first);
        noWhat("17: first", Ground.SOME, 1, Counted::first);
        asked("17: first(0)", Ground.SOME, 1, x -> x.first(0));
        asked("17: first(1)", Ground.SOME, 0, x -> x.first(1));
        asked("17: first(0), no houses", Ground.NONE, -9, x -> x.first(0));
        asked("17: first(1), no houses", Ground.NONE, 0, x -> x.first(1));
    }

    private static void sees() {
        noHouse("18: sees", Counted::sees);
        asked("18: sees(0)", Ground.SOME, 2 | 4 | 128, x -> x.sees(0));
        asked("18: sees(2)", Ground.SOME, 1 | 2, x -> x.sees(2));
        asked("18: sees(6)", Ground.FULL, 63 | 128, x -> x.sees(6));
    }

    private static void hill() {
        noHouse("19: hill(0, house)", (x, h) -> x.hill(0, h));
        noHouse("19: hill(house, 0)", (x, h) -> x.hill(h, 0));
        noHouse("19: nobody twice is one refusal", (x, h) -> x.hill(h, h));
        eachRefused("19: one twice", Ground.SOME, -1, new int[] {0, 1, 2}, (x, h) -> x.hill(h, h));
        eachRefused("19: one twice", Ground.FULL, -1, new int[] {0, 6}, (x, h) -> x.hill(h, h));
        // The line falls from 5 at 10 to 3 at 19: the flat land is nearest to it at 18.
        asked("19: hill(0, 2)", Ground.SOME, 18, x -> x.hill(0, 2));
        asked("19: hill(2, 0)", Ground.SOME, 18, x -> x.hill(2, 0));
        asked("19: hill(0, 6), in one cell", Ground.FULL, -9, x -> x.hill(0, 6));
        asked("19: hill(6, 5)", Ground.FULL, 15, x -> x.hill(6, 5));
    }

    private static void leastEye() {
        noHouse("20: leastEye", Counted::leastEye);
        asked("20: leastEye(0)", Ground.SOME, 0, x -> x.leastEye(0));
        // Over 2 at 19 from 10: EYE by 10 must be above 2.
        asked("20: leastEye(2)", Ground.SOME, 21, x -> x.leastEye(2));
        asked("20: leastEye(6)", Ground.FULL, 0, x -> x.leastEye(6));
    }

    private static void cut() {
        noWhat("21: cut", Ground.NONE, 2, Counted::cut);
        noWhat("21: cut", Ground.SOME, 2, Counted::cut);
        asked("21: cut(0)", Ground.SOME, 0, x -> x.cut(0));
        asked("21: cut(1)", Ground.SOME, 0, x -> x.cut(1));
        asked("21: cut(2)", Ground.SOME, 1, x -> x.cut(2));
        asked("21: cut(0), no houses", Ground.NONE, -9, x -> x.cut(0));
        asked("21: cut(1), no houses", Ground.NONE, -9, x -> x.cut(1));
        asked("21: cut(2), no houses", Ground.NONE, 0, x -> x.cut(2));
    }

    private static void build() {
        noWhat("22: build", Ground.NONE, 1, Counted::build);
        noWhat("22: build", Ground.FULL, 1, Counted::build);
        // From 0 (EYE 5) the SLEEPER at 17 is seen, 18 cells being the most in FOG 1.
        asked("22: build(0)", Ground.SOME, 0, x -> x.build(0));
        asked("22: build(1)", Ground.SOME, 4, x -> x.build(1));
        // On the hill of 2 alone, or behind it, nothing hides the SEA; 18 has the hill ahead of it.
        asked("22: build(0), no houses", Ground.NONE, 19, x -> x.build(0));
        asked("22: build(1), no houses", Ground.NONE, 1, x -> x.build(1));
        asked("22: build(0), room or not", Ground.FULL, 0, x -> x.build(0));
    }

    // ---- 25 .. 27 ----

    private static void call() {
        outOfRange("25: call", Ground.NONE, 0, 12, Counted::call);
        outOfRange("25: call", Ground.SOME, 0, 12, Counted::call);
        asked("25: call(0)", Ground.SOME, 0, x -> x.call(0));
        // Were all CALLED, the SLEEPER would hang in 4, 8 and 12, too.
        asked("25: call(12)", Ground.SOME, 2, x -> x.call(12));
        asked("25: call(12), no houses", Ground.NONE, 0, x -> x.call(12));
    }

    private static void news() {
        noHouse("26: news(house, 0)", (x, h) -> x.news(h, 0));
        noHouse("26: news(house, 1)", (x, h) -> x.news(h, 1));
        noHouse("26: -1 ahead of -2", (x, h) -> x.news(h, 2));
        noHouse("26: -1 ahead of -2", (x, h) -> x.news(h, -1));
        noWhat("26: news", Ground.SOME, 1, (x, w) -> x.news(2, w));
        asked("26: news(0, 0)", Ground.SOME, 1, x -> x.news(0, 0));
        asked("26: news(0, 1)", Ground.SOME, 7, x -> x.news(0, 1));
        asked("26: news(2, 0)", Ground.SOME, 2, x -> x.news(2, 0));
        asked("26: news(2, 1)", Ground.SOME, 0, x -> x.news(2, 1));
        asked("26: news(6, 0)", Ground.FULL, 1, x -> x.news(6, 0));
    }

    // ---- 33 .. 35 ----

    private static void two() {
        noHouse("33: two(0, house)", (x, h) -> x.two(0, h));
        noHouse("33: two(house, 0)", (x, h) -> x.two(h, 0));
        noHouse("33: nobody twice is one refusal", (x, h) -> x.two(h, h));
        eachRefused("33: one twice", Ground.SOME, -1, new int[] {0, 1, 2}, (x, h) -> x.two(h, h));
        eachRefused("33: one twice", Ground.FULL, -1, new int[] {0, 6}, (x, h) -> x.two(h, h));
        // The SLEEPER hangs in 3, 5, 6, 7: 8 against 12 less 6.
        asked("33: two(0, 1)", Ground.SOME, 0, x -> x.two(0, 1));
        asked("33: two(2, 0)", Ground.SOME, 0, x -> x.two(2, 0));
        // The OLD one is awake in 1001 and 1003 alone: 4 against 12 less 6.
        asked("33: two(5, 6)", Ground.FULL, 10, x -> x.two(5, 6));
        asked("33: two(6, 5)", Ground.FULL, 1, x -> x.two(6, 5));
    }

    private static void mist() {
        for (int part = 0; part <= 1; part++) {
            int p = part;
            for (int number : new int[] {MIN, -1, 3, MAX}) {
                refusedLong("34: mist of " + number, Ground.SOME, -1, x -> x.mist(number, 0, 2, p));
            }
            refusedLong("34: mist of 0, no houses", Ground.NONE, -1, x -> x.mist(0, 7, 20, p));
            refusedLong("34: mist of 7 of seven", Ground.FULL, -1, x -> x.mist(7, 7, 20, p));
            for (int n : new int[] {MIN, -1}) {
                refusedLong("34: mist n " + n, Ground.SOME, -4, x -> x.mist(2, n, 2, p));
            }
            for (int t : new int[] {MIN, -1, 0, 1}) {
                refusedLong("34: mist t " + t, Ground.SOME, -4, x -> x.mist(2, 0, t, p));
            }
            for (int n : new int[] {8, MAX}) {
                refusedLong("34: mist n " + n, Ground.SOME, -6, x -> x.mist(2, n, 20, p));
            }
            for (int t : new int[] {21, MAX}) {
                refusedLong("34: mist t " + t, Ground.SOME, -6, x -> x.mist(2, 7, t, p));
            }
            asked("34: mist(0, 0, 2)", Ground.SOME, 1, x -> x.mist(0, 0, 2, p));
            asked("34: mist(2, 0, 20)", Ground.SOME, 1, x -> x.mist(2, 0, 20, p));
            asked("34: mist(0, 7, 20)", Ground.SOME, 1, x -> x.mist(0, 7, 20, p));
            asked("34: mist(6, 7, 20)", Ground.FULL, 1, x -> x.mist(6, 7, 20, p));
        }
        for (int part : new int[] {MIN, -1, 2, 3, MAX}) {
            refusedLong("34: mist, part " + part, Ground.SOME, -2, x -> x.mist(2, 7, 20, part));
            refusedLong("34: mist, part " + part, Ground.SOME, -2, x -> x.mist(0, 0, 2, part));
        }
        // Nobody stands within 2 CELLS of the TOWER; its 14 WICKS are for 7 NIGHTS.
        asked("34: mist(2, 7, 20) above", Ground.SOME, 893871739L, x -> x.mist(2, 7, 20, 0));
        asked("34: mist(2, 7, 20) below", Ground.SOME, 1280000000L, x -> x.mist(2, 7, 20, 1));
        asked("34: mist(2, 7, 2) above", Ground.SOME, 1, x -> x.mist(2, 7, 2, 0));
        asked("34: mist(2, 7, 2) below", Ground.SOME, 128, x -> x.mist(2, 7, 2, 1));
    }

    private static void mistOrder() {
        for (int house : new int[] {MIN, -1, 3, MAX}) {
            refusedLong("34: -1 ahead of -4 (n)", Ground.SOME, -1, x -> x.mist(house, -1, 2, 0));
            refusedLong("34: -1 ahead of -4 (t)", Ground.SOME, -1, x -> x.mist(house, 0, 1, 0));
            refusedLong("34: -1 ahead of -6 (n)", Ground.SOME, -1, x -> x.mist(house, 8, 2, 0));
            refusedLong("34: -1 ahead of -6 (t)", Ground.SOME, -1, x -> x.mist(house, 7, 21, 0));
            refusedLong("34: -1 ahead of -2", Ground.SOME, -1, x -> x.mist(house, 7, 20, 2));
        }
        refusedLong("34: -4 (n) ahead of -6 (t)", Ground.SOME, -4, x -> x.mist(0, -1, 21, 0));
        refusedLong("34: -4 (t) ahead of -6 (n)", Ground.SOME, -4, x -> x.mist(0, 8, 1, 0));
        refusedLong("34: -4 (n) ahead of -2", Ground.SOME, -4, x -> x.mist(0, -1, 2, 2));
        refusedLong("34: -4 (t) ahead of -2", Ground.SOME, -4, x -> x.mist(0, 0, 1, -1));
        refusedLong("34: -4 twice is one", Ground.SOME, -4, x -> x.mist(0, -1, 1, 0));
        refusedLong("34: -6 (n) ahead of -2", Ground.SOME, -6, x -> x.mist(0, 8, 2, 2));
        refusedLong("34: -6 (t) ahead of -2", Ground.SOME, -6, x -> x.mist(0, 7, 21, -1));
        refusedLong("34: -6 twice is one", Ground.SOME, -6, x -> x.mist(0, 8, 21, 0));
    }

    private static void mean() {
        for (int part : new int[] {MIN, -1, 2, 3, MAX}) {
            refusedLong("35: mean, part " + part, Ground.NONE, -2, x -> x.mean(part));
            refusedLong("35: mean, part " + part, Ground.SOME, -2, x -> x.mean(part));
        }
        asked("35: mean(0)", Ground.SOME, 7, x -> x.mean(0));
        asked("35: mean(1)", Ground.SOME, 20, x -> x.mean(1));
        asked("35: mean(0) of flat land", Ground.FULL, 0, x -> x.mean(0));
        asked("35: mean(1) of flat land", Ground.FULL, 1, x -> x.mean(1));
    }

    // ---- 37, 38, 41, 43, 44 ----

    private static void whatIs() {
        noHouse("37: whatIs(house, 0)", (x, h) -> x.whatIs(h, 0));
        noHouse("37: whatIs(house, 1)", (x, h) -> x.whatIs(h, 1));
        noHouse("37: -1 ahead of -2", (x, h) -> x.whatIs(h, 2));
        noHouse("37: -1 ahead of -2", (x, h) -> x.whatIs(h, -1));
        noWhat("37: whatIs", Ground.SOME, 1, (x, w) -> x.whatIs(2, w));
        // The ROW tells 3 in NIGHT 3 and 2 in NIGHT 4, in which the SLEEPER sleeps.
        asked("37: whatIs(0, 0): c, t are lit in both", Ground.SOME, 1 | 2, x -> x.whatIs(0, 0));
        asked("37: whatIs(2, 0): s, l of figure 9, too", Ground.SOME, 1 | 2 | 4 | 8, x -> x.whatIs(2, 0));
        asked("37: whatIs(2, 1)", Ground.SOME, 1023, x -> x.whatIs(2, 1));
        asked("37: whatIs(1, 1): 2 and 4 divide 4, but no 3", Ground.SOME, 1 | 4, x -> x.whatIs(1, 1));
        asked("37: whatIs(6, 0): 9 never hang", Ground.FULL, 0, x -> x.whatIs(6, 0));
    }

    private static void row() {
        outOfRange("38: row", Ground.NONE, 0, 99, Counted::row);
        outOfRange("38: row", Ground.SOME, 0, 99, Counted::row);
        taken("38: row(0)", Ground.SOME, 3, x -> x.row(0));
        taken("38: row(99)", Ground.SOME, 3, x -> x.row(99));
        for (int v : new int[] {0, 50, 99}) {
            refused("38: the 17th number " + v, Ground.FULL, -6, x -> x.row(v));
        }
        refused("38: -4 ahead of -6 (16)", Ground.FULL, -4, x -> x.row(-1));
        refused("38: -6 twice is one", Ground.FULL, -6, x -> x.row(100));
        Counted x = new Counted();
        for (int i = 1; i <= 16; i++) {
            Check.due("38: the number " + i, x.row(99), i);
        }
        Check.due("38: the number 17", x.row(99), -6);
        Check.due("38: 16 of them", x.count(6), 16);
        Check.due("38: clear()", x.clear(), 16);
        Check.due("38: there is room again", x.row(0), 1);
    }

    private static void lots() {
        for (int what = 0; what <= 1; what++) {
            int w = what;
            outOfRange("41: lots, what " + w, Ground.SOME, 1, 20, (x, n) -> x.lots(n, 3, w));
            asked("41: lots(1, .., " + w + "), no houses", Ground.NONE, 0, x -> x.lots(1, MIN, w));
            asked("41: lots(20, .., " + w + "), no houses", Ground.NONE, 0, x -> x.lots(20, MAX, w));
        }
        noWhat("41: lots", Ground.SOME, 1, (x, w) -> x.lots(20, 3, w));
        for (int what : new int[] {MIN, -1, 2, MAX}) {
            refused("41: -4 ahead of -2", Ground.SOME, -4, x -> x.lots(0, 3, what));
            refused("41: -6 ahead of -2", Ground.SOME, -6, x -> x.lots(21, 3, what));
        }
        // Seed 3 draws cells 9, 10, 2 and WICKS 4, 3, 3; in the NIGHTS 3 .. 6 the COTTAGE burns all its four, the
        // SLEEPER (asleep in 4) its three, the TOWER two of its three.
        asked("41: lots(1, 3, 0)", Ground.SOME, 0, x -> x.lots(1, 3, 0));
        asked("41: lots(1, 3, 1)", Ground.SOME, 1, x -> x.lots(1, 3, 1));
    }

    private static void on() {
        Counted x = new Counted();
        x.heaps(2, 5);
        x.fog(3);
        x.nights(2);
        String before = state(x);
        Check.due("43: there is none", x.on(), -3);
        Check.same("43: on() without an image counts", Arrays.toString(refusals(x)), "[0, 0, 1, 0, 0, 0]");
        Check.same("43: on() without an image changes", state(x), before);
        Check.due("43: still none", x.on(), -3);
        Check.due("43: image()", x.image(), 2);
        Check.due("43: there is one", x.on(), 2);
        Check.due("43: and stays", x.on(), 2);
        Check.same("43: twice there was none", Arrays.toString(refusals(x)), "[0, 0, 2, 0, 0, 0]");
        taken("43: on()", Ground.SOME, 0, y -> y.on());
        asked("43: ON, and then the same again", Ground.NONE, 3, y -> {
            y.on();
            y.heaps(0, 4);
            y.fog(1);
            y.nights(3);
            return y.count(1);
        });
    }

    // "-9 for another what": an answer, no refusal.
    private static void count() {
        for (int what : new int[] {MIN, -1, 8, 9, 10, 17, 18, 19, 100, MAX}) {
            asked("44: count(" + what + ")", Ground.SOME, -9, x -> x.count(what));
        }
        int[] due = {3, 3, 1, 7, 7, 96 + 97 + 14, 2, 6};
        for (int what = 0; what <= 7; what++) {
            int w = what;
            asked("44: count(" + w + ")", Ground.SOME, due[w], x -> x.count(w));
        }
        int[] counted = {1, 2, 3, 4, 0, 5};
        for (int i = 0; i < 6; i++) {
            int w = 11 + i;
            asked("44: count(" + w + ")", Ground.FULL, counted[i], x -> x.count(w));
        }
    }

    // Those without an argument refuse nothing; a FAULT, -9 and none at all are answers.
    private static void neverRefused() {
        for (Ground ground : Ground.values()) {
            Counted x = ground.make();
            x.fell();
            x.raise();
            x.farthest();
            x.fogged();
            x.highest();
            x.whoSlept();
            x.judge();
            x.clear();
            x.image();
            x.on();
            x.land();
            x.land();
            Check.same(ground + ": nothing is counted", Arrays.toString(refusals(x)), "[1, 2, 3, 4, 0, 5]");
        }
    }
}
