/**
 * The document's sentences that name a boundary case, one by one: each has a test of its own, with answers worked
 * out by hand. What is refused, and which refusal is told, is in RefusalTests.
 */
public final class EdgeTests {
    private static final int MIN = Integer.MIN_VALUE;
    private static final int MAX = Integer.MAX_VALUE;
    private static final String KINDS = Told.KINDS;

    public static void main(String[] args) {
        firstAndLastCell();
        theSea();
        heightsOfLines();
        sevenHouses();
        theSeventhIsAsAny();
        severalInOneCell();
        wicksAtMost99();
        atFirst();
        calledOrToldAgainNot();
        candles();
        sleep();
        asManyWicksAsItBurns();
        aNight();
        reachInFog();
        sees();
        inTheWay();
        leastEye();
        cutAndNeeded();
        build();
        fellAndRaise();
        call();
        news();
        share();
        fogged();
        highest();
        two();
        mist();
        mean();
        whoSlept();
        whatItIs();
        judged();
        lots();
        image();
        fiveHundredAndTwelveCalls();
        Check.end("EdgeTests");
    }

    // ---- CELLS, HEIGHTS, the SEA ----

    // "CELLS 0 .. 19, each of a HEIGHT (0 .. 9; 0 at first)"
    private static void firstAndLastCell() {
        Counted x = Told.land("c009;c199;hc000;hc019;");
        Check.due("cells: height(0)", x.height(0), 9);
        Check.due("cells: height(1)", x.height(1), 0);
        Check.due("cells: height(18)", x.height(18), 0);
        Check.due("cells: height(19)", x.height(19), 9);
        Check.due("cells: a house at 0", x.house(0, 2), 0);
        Check.due("cells: a house at 19", x.house(1, 2), 19);
        Check.due("cells: eye on 9", x.house(1, 6), 10);
        Check.due("cells: of several the least may be 0", x.highest(), 0);
        Check.due("cells: felling 19", Told.land("c199;hc000;").fell(), 19);
        Check.due("cells: building at 19", Told.land("c195;").build(0), 19);
        Check.due("cells: building at 0", Told.land("c005;").build(0), 0);
        Check.due("cells: the hill at 18 is in the way to 19", Told.land("hc000;hc019;c185;").hill(0, 1), 18);
        Check.due("cells: the hill at 1 is in the way to 0", Told.land("hc000;hc019;c015;").hill(1, 0), 1);
    }

    // "behind 19 is the SEA (CELL 20, of HEIGHT 0)"; "of the SEA 0"
    private static void theSea() {
        Check.due("sea: one cell behind 19", Told.land("f9;hl019;").sees(0), 128);
        Check.due("sea: twenty behind 0", Told.land("hc000;").sees(0), 128);
        // From 18 the line to an EYE of 0 at 20 is half as high over 19.
        Check.due("sea: eye 1 over a hill of 1 at 19", Told.land("c191;hc018;").sees(0), 0);
        Check.due("sea: eye 2 over a hill of 1 at 19", Told.land("c191;ht218;").sees(0), 0);
        Check.due("sea: eye 3 over a hill of 1 at 19", Told.land("c191;ht418;").sees(0), 128);
        Check.due("sea: 19 has nothing ahead", Told.land("c199;hc019;").sees(0), 128);
    }

    // "each CELL between them is lower than the straight line from EYE to EYE is there (not so high as it)"
    private static void heightsOfLines() {
        // From EYE 1 at 0 to EYE 6 at 10 the line is 3 over 4, 3.5 over 5 and 1.5 over 1.
        String land = "f2;hc000;c105;hc010;";
        int[][] seen = {{4, 2, 1}, {4, 3, 0}, {4, 4, 0}, {5, 3, 1}, {5, 4, 0}, {1, 1, 1}, {1, 2, 0}, {9, 5, 1}, {9, 6, 0}};
        for (int[] hill : seen) {
            Counted x = Told.land(land + "c" + Told.two(hill[0]) + hill[1] + ";");
            String name = "line: " + hill[1] + " at " + hill[0];
            Check.due(name, x.sees(0), hill[2] == 1 ? 2 : 0);
            Check.due(name + ", back", x.sees(1) & 1, hill[2]);
        }
        Check.due("line: at 9 over 8", Told.land("c009;c109;c058;hl000;hl010;f5;").sees(0), 2);
        Check.due("line: at 9 not over 9", Told.land("c009;c109;c059;hl000;hl010;f5;").sees(0), 0);
        Check.due("line: at 10 over 9", Told.land("c009;c109;c059;hc000;hc010;f5;").sees(0), 2);
        Check.due("line: a low one's on flat land sees nobody far", Told.land("hl000;hl002;f9;").sees(0), 0);
        Check.due("line: but the next cell", Told.land("hl000;hl001;f9;").sees(0), 2);
        // The cells of the two themselves are not between them.
        Check.due("line: own hills hide nothing", Told.land("c004;c014;c024;hl000;hl001;hl002;f9;").sees(1), 1 | 4);
    }

    // ---- HOUSES ----

    // "HOUSES 0 .. as they come (7 at most)"
    private static void sevenHouses() {
        Counted x = new Counted();
        for (int house = 0; house < 7; house++) {
            Check.due("houses so far", x.count(0), house);
            Told.more(x, "hc" + house + Told.two(2 * house) + ";");
            Check.due("houses: figure as it came", x.house(house, 1), house);
        }
        Check.due("houses: seven", x.count(0), 7);
        Check.due("houses: an eighth", Told.tell(x, "hc000;"), -2000);
        Check.due("houses: still seven", x.count(0), 7);
        Check.due("houses: the seventh's bit", x.count(3), 127);
        Check.due("houses: all hang", x.count(4), 127);
        Check.due("houses: all wicks", x.count(5), 140);
    }

    private static void theSeventhIsAsAny() {
        Counted last = Told.land("hc019;".repeat(6) + "hc018;w020;w120;w220;w320;w420;w520;");
        Check.due("seventh: burns out first", last.first(0), 6);
        Check.due("seventh: behind 20", last.dark(6), 20);
        Check.due("seventh: wicks then", last.wicksThen(6, 19), 1);
        Check.due("seventh: lit then", last.litThen(20), 63);
        Check.due("seventh: hanging then", last.hangThen(19), 127);
        Check.due("seventh: none more for 19 nights", last.share(19), -9);
        Check.due("seventh: the wick goes to it", last.share(20), 6);
        Check.due("seventh: all have spent", last.spend(60), 6 * 40 + 20);
        Check.due("seventh: longest", last.longest(60), 7);
        Check.due("seventh: two", last.two(5, 6), 0);
        Check.due("seventh: whole", last.first(1), 0);
        Counted low = Told.land("hs000;".repeat(6) + "c191;hc018;");
        Check.due("seventh: raised", low.raise(), 6);
        Check.due("seventh: felled for it", low.fell(), 19);
        Check.due("seventh: least eye", low.leastEye(6), 3);
        Counted far = Told.land("f9;" + "hc018;".repeat(6) + "hc016;");
        Check.due("seventh: two off", far.farthest(), 6);
        Check.due("seventh: mist", far.mist(6, 7, 20, 1), 1);
        Counted alone = Told.land("f9;" + "hc000;".repeat(6) + "hc019;");
        Told.row(alone, 0);
        Check.due("seventh: without it", alone.whoSlept(), 64);
        Check.due("seventh: what it is", alone.whatIs(6, 0), 4 | 8 | 32);
        Check.due("seventh: calls", Told.land("hc019;".repeat(6) + "hs019;").call(0), 64);
        sevenByLot();
    }

    // Each burns two of the WICKS it draws in the NIGHTS 1 .. 4, and sees the SEA from any CELL.
    private static void sevenByLot() {
        // MIN (and 0) draw WICKS 2 4 0 2 0 4 4, then 1 2 0 0 0 0 3; MAX draws 0 2 4 2 4 0 1, then 4 3 4 0 1 3 3.
        Counted x = Told.land("hs000;".repeat(7) + "n01;");
        Check.due("lots of seven: MIN, wicks", x.lots(1, MIN, 1), 6);
        Check.due("lots of seven: MIN, hanging", x.lots(1, MIN, 0), 3);
        Check.due("lots of seven: MIN twice, wicks", x.lots(2, MIN, 1), 7);
        Check.due("lots of seven: MIN twice, hanging", x.lots(2, MIN, 0), 4);
        Check.due("lots of seven: 0 twice, wicks", x.lots(2, 0, 1), 7);
        Check.due("lots of seven: MAX, wicks", x.lots(1, MAX, 1), 4);
        Check.due("lots of seven: MAX, hanging", x.lots(1, MAX, 0), 2);
        Check.due("lots of seven: MAX twice, wicks", x.lots(2, MAX, 1), 11);
        Check.due("lots of seven: MAX twice, hanging", x.lots(2, MAX, 0), 7);
    }

    // "a CELL (several may be in one)"; "Two in one CELL SEE one another."
    private static void severalInOneCell() {
        Counted x = Told.land("f9;c059;hl005;hl005;hm905;hc005;ho005;hs005;ht905;");
        for (int house = 0; house < 7; house++) {
            Check.due("one cell: sees(" + house + ")", x.sees(house), 127 & ~(1 << house));
        }
        x.moves(3, 8);
        Check.due("one cell: who moved sees nobody", x.sees(3), 0);
    }

    // "WICKS (0 .. 99; 20 at first)"; "so many more (99 at most)"
    private static void wicksAtMost99() {
        Counted x = Told.land("hc019;hc019;hc019;w078;w179;w280;");
        Check.due("wicks: 20 and 78", x.house(0, 3), 98);
        Check.due("wicks: 20 and 79", x.house(1, 3), 99);
        Check.due("wicks: 20 and 80", x.house(2, 3), 99);
        Check.due("wicks: none more by land", Told.tell(x, "w100;w000;"), 2);
        Check.due("wicks: 98 stay", x.house(0, 3), 98);
        Check.due("wicks: 99 stay", x.house(1, 3), 99);
        Check.due("wicks: one more than 99", x.gives(1, 1), 99);
        Check.due("wicks: 99 more than 99", x.gives(1, 99), 99);
        Check.due("wicks: one more than 98", x.gives(0, 1), 99);
        Counted y = Told.land("hc019;n20;");
        Check.due("wicks: all burnt", y.house(0, 3), 0);
        Check.due("wicks: 99 by land of 0", Told.tell(y, "w099;"), 1);
        Check.due("wicks: 99", y.house(0, 3), 99);
        y.nights(60);
        y.nights(39);
        Check.due("wicks: 0 again", y.house(0, 3), 0);
        Check.due("wicks: never below 0", y.nights(1) + y.house(0, 3), 0);
        Check.due("wicks: 99 of 0", y.gives(0, 99), 99);
    }

    // "0 at first"; "20 at first"; "CALLED to sit up or not (at first)"
    private static void atFirst() {
        Counted x = new Counted();
        for (int cell = 0; cell < 20; cell++) {
            Check.due("at first: height(" + cell + ")", x.height(cell), 0);
        }
        for (int what = 0; what <= 7; what++) {
            Check.due("at first: count(" + what + ")", x.count(what), 0);
        }
        for (int what = 11; what <= 16; what++) {
            Check.due("at first: count(" + what + ")", x.count(what), 0);
        }
        for (char kind : KINDS.toCharArray()) {
            Counted y = Told.land("h" + kind + "719;");
            Check.due("at first: wicks of " + kind, y.house(0, 3), 20);
            Check.due("at first: " + kind + " is not called", y.house(0, 4), 0);
        }
    }

    // "u" a HOUSE: CALLED, or, told again, not
    private static void calledOrToldAgainNot() {
        Counted x = Told.land("hs019;hs019;u1;");
        Check.due("called: 1", x.house(1, 4) * 10 + x.house(0, 4), 10);
        Told.more(x, "u1;u0;");
        Check.due("called: 0", x.house(1, 4) * 10 + x.house(0, 4), 1);
        Told.more(x, "u1;u1;u0;u0;u0;");
        Check.due("called: thrice told", x.house(1, 4) * 10 + x.house(0, 4), 0);
        Check.due("called: by call", x.calls(0), 1);
        Told.more(x, "u0;");
        Check.due("called: by letters not any more", x.house(0, 4), 0);
    }

    // ---- KINDS, LIT, a NIGHT ----

    // "how high its CANDLE is above its HEIGHT": "FIGURE by 2, cut, more"; "2 more"; "0"
    private static void candles() {
        int[][] due = {
            {1, 1, 1, 1, 1, 1, 1, 1, 1, 1}, {1, 1, 2, 2, 3, 3, 4, 4, 5, 5}, {1, 1, 1, 1, 1, 1, 1, 1, 1, 1},
            {0, 0, 0, 0, 0, 0, 0, 0, 0, 0}, {3, 3, 4, 4, 5, 5, 6, 6, 7, 7}, {1, 1, 1, 1, 1, 1, 1, 1, 1, 1},
        };
        int[] burns = {1, 2, 1, 1, 2, 2};
        for (int kind = 0; kind < 6; kind++) {
            for (int figure = 0; figure <= 9; figure++) {
                Counted x = Told.land("c069;h" + KINDS.charAt(kind) + figure + "05;");
                String name = "candle: " + KINDS.charAt(kind) + figure;
                Check.due(name, x.house(0, 6), due[kind][figure]);
                x.moves(0, 6);
                Check.due(name + " on 9", x.house(0, 6), 9 + due[kind][figure]);
                Check.due(name + " burns", x.house(0, 7), burns[kind]);
                Check.due(name + " kind", x.house(0, 0), kind);
            }
        }
    }

    // "if 2 more than FIGURE divides NIGHT (0, too)"; "if NIGHT is odd"; "also if 3 divides NIGHT"; "CALLED ones never do"
    private static void sleep() {
        for (int kind = 0; kind < 6; kind++) {
            for (int figure = 0; figure <= 9; figure++) {
                Counted x = Told.land("h" + KINDS.charAt(kind) + figure + "19;w099;");
                Counted called = Told.land("h" + KINDS.charAt(kind) + figure + "19;w099;u0;");
                for (int night = 0; night <= 44; night++) {
                    String name = "sleep: " + KINDS.charAt(kind) + figure + " in " + night;
                    Check.due(name, x.litThen(night), sleeps(kind, figure, night) ? 0 : 1);
                    Check.due(name + ", called", called.litThen(night), 1);
                }
            }
        }
    }

    private static boolean sleeps(int kind, int figure, int night) {
        boolean asSleeper = night / (2 + figure) * (2 + figure) == night;
        switch (KINDS.charAt(kind)) {
            case 's': case 'l': return asSleeper;
            case 'm': return night / 2 * 2 != night;
            case 'o': return asSleeper || night / 3 * 3 == night;
            default: return false;
        }
    }

    // "LIT: it has as many WICKS as it burns in a NIGHT, or more, and does not SLEEP"
    private static void asManyWicksAsItBurns() {
        for (int kind = 0; kind < 6; kind++) {
            boolean burnsTwo = "tmo".indexOf(KINDS.charAt(kind)) >= 0;
            Counted x = Told.land("h" + KINDS.charAt(kind) + "019;u0;n20;");
            String name = "lit: " + KINDS.charAt(kind);
            Check.due(name + " with 0", x.house(0, 3) * 10 + x.house(0, 5), 0);
            x.gives(0, 1);
            Check.due(name + " with 1", x.house(0, 5), burnsTwo ? 0 : 1);
            Check.due(name + " with 1, bits", x.count(3), burnsTwo ? 0 : 1);
            x.gives(0, 1);
            Check.due(name + " with 2", x.house(0, 5), 1);
            x.nights(1);
            Check.due(name + " behind a night", x.house(0, 3), burnsTwo ? 0 : 1);
        }
        // One is left over of 21, and stays.
        Counted t = Told.land("ht019;w001;n10;");
        Check.due("lit: one wick left", t.house(0, 3) * 10 + t.house(0, 5), 10);
        t.nights(60);
        Check.due("lit: it stays", t.house(0, 3), 1);
        Check.due("lit: who sleeps burns none", Told.land("hs919;n01;").house(0, 3), 20);
    }

    // "A NIGHT: those that are LIT burn WICKS, then NIGHT is 1 more."
    private static void aNight() {
        Counted x = Told.land("hs019;hm019;");
        x.nights(1);
        Check.due("night: asleep in 0", x.house(0, 3), 20);
        Check.due("night: awake in 0", x.house(1, 3), 18);
        Check.due("night: 1", x.count(1), 1);
        Check.due("night: lit in 1", x.count(3), 1);
        x.nights(1);
        Check.due("night: awake in 1", x.house(0, 3), 19);
        Check.due("night: asleep in 1", x.house(1, 3), 18);
        // The night's last wick is burnt by one who is lit until then; the other hangs by it.
        Counted y = Told.land("c199;hc019;hc000;w101;");
        Check.due("night: the nineteenth", y.nights(19), 2);
        Check.due("night: the twentieth, one is lit but does not hang", y.nights(1), 0);
        Check.due("night: it is lit", y.count(3), 2);
    }

    // "they are at most 20 less 2 FOG CELLS apart"
    private static void reachInFog() {
        for (int fog = 0; fog <= 9; fog++) {
            int reach = 20 - 2 * fog;
            String foggy = "f" + fog + ";";
            Check.due("fog " + fog + ": the sea", Told.land(foggy + "hc0" + Told.two(20 - reach) + ";").sees(0), 128);
            Check.due("fog " + fog + ": an eye for the sea",
                Told.land(foggy + "hc0" + Told.two(20 - reach) + ";").leastEye(0), 1);
            if (fog > 0) {
                Counted far = Told.land(foggy + "hc0" + Told.two(19 - reach) + ";");
                Check.due("fog " + fog + ": a cell too far", far.sees(0), 0);
                Check.due("fog " + fog + ": no eye is high enough", far.leastEye(0), -9);
                Check.due("fog " + fog + ": two", Told.land(foggy + "hc000;hc0" + Told.two(reach) + ";").sees(0), 2);
                Check.due("fog " + fog + ": two, back", Told.land(foggy + "hc0" + Told.two(reach) + ";hc000;").sees(1), 1);
                Check.due("fog " + fog + ": two too far", Told.land(foggy + "hc000;hc0" + Told.two(reach + 1) + ";").sees(0), 0);
            }
        }
        Check.due("fog 0: two at the ends", Told.land("hc000;hc019;").sees(0), 2 | 128);
    }

    // ---- what is seen ----

    // "bits of HOUSES, LIT or not, itself not; bit 7: the SEA"
    private static void sees() {
        Check.due("sees: nothing", Told.land("f9;hc000;").sees(0), 0);
        Check.due("sees: the sea alone", Told.land("hc000;").sees(0), 128);
        Check.due("sees: the first alone", Told.land("f9;hc000;hc001;").sees(1), 1);
        Check.due("sees: the last alone", Told.land("f9;" + "hc010;".repeat(5) + "hc000;hc001;").sees(5), 64);
        Check.due("sees: all and the sea", Told.land("hs019;".repeat(7)).sees(0), 126 | 128);
        Counted dark = Told.land("hs019;hs019;n01;n60;n60;");
        Check.due("sees: burnt out, too", dark.sees(0) * 10 + dark.count(3), 1300);
    }

    // "of several the least; -9 none is between"
    private static void inTheWay() {
        Check.due("way: in one cell", Told.land("hc007;hc007;").hill(0, 1), -9);
        Check.due("way: in the next", Told.land("hc007;hc008;").hill(0, 1), -9);
        Check.due("way: in the next, back", Told.land("hc008;hc007;").hill(0, 1), -9);
        Check.due("way: one cell between", Told.land("hc007;hc009;").hill(0, 1), 8);
        Check.due("way: one cell between, back", Told.land("hc009;hc007;").hill(0, 1), 8);
        Check.due("way: level, of several the least", Told.land("hc000;hc019;").hill(0, 1), 1);
        Check.due("way: level, of several the least, back", Told.land("hc019;hc000;").hill(0, 1), 1);
        Check.due("way: as high as one another", Told.land("c034;c094;hc000;hc019;").hill(1, 0), 3);
        Check.due("way: the last of them higher", Told.land("c034;c184;c095;c185;hc000;hc019;").hill(0, 1), 9);
        // From 1 at 0 to 10 at 10 the line is 2.8 over 2, 5.5 over 5 and 8.2 over 8.
        Check.due("way: farthest above the line, not highest", Told.land("c109;hc000;hc010;c023;c056;").hill(0, 1), 5);
        Check.due("way: farthest above the line, not highest", Told.land("c109;hc000;hc010;c024;c056;").hill(0, 1), 2);
        Check.due("way: by a fraction", Told.land("c109;hc000;hc010;c023;c089;").hill(0, 1), 8);
    }

    // "the least how high its CANDLE must be (0 .. 30) so that one SEES the SEA; -9"
    private static void leastEye() {
        // From 13 over 9 at 18 the EYE must be above 31.5; from 14 above 27.
        Check.due("least eye: 30", Told.land("c189;c132;hc013;").leastEye(0), 30);
        Check.due("least eye: 31 is none", Told.land("c189;c131;hc013;").leastEye(0), -9);
        Check.due("least eye: 28, above 27", Told.land("c189;hc014;").leastEye(0), 28);
        Check.due("least eye: 0 at 19", Told.land("c199;hc019;").leastEye(0), 0);
        Check.due("least eye: 0 on a hill", Told.land("c101;hm910;").leastEye(0), 0);
        Check.due("least eye: 1 on flat land", Told.land("hm910;").leastEye(0), 1);
        // Its own kind and how high its candle is are nothing to it.
        Check.due("least eye: of a low one", Told.land("hl000;").leastEye(0), 1);
        Check.due("least eye: who sleeps", Told.land("hs000;").leastEye(0), 1);
    }

    // ---- what would be otherwise ----

    // "the one LIT without whose light fewest HANG .. of several the least; -9; how many then"
    private static void cutAndNeeded() {
        for (String nobodyLit : new String[] {"hs019;", "hl019;ho019;hs119;", "hm019;n01;", "hc019;n20;"}) {
            Counted x = Told.land(nobodyLit);
            Check.due("cut: nobody lit, " + nobodyLit, x.cut(0), -9);
            Check.due("cut: nobody lit, then, " + nobodyLit, x.cut(1), -9);
            Check.due("needed: nobody lit, " + nobodyLit, x.cut(2), 0);
        }
        Counted one = Told.land("hs019;hc019;");
        Check.due("cut: the only one lit", one.cut(0) * 10 + one.cut(1), 10);
        Check.due("needed: by nobody else", one.cut(2), 0);
        Counted dark = Told.land("f9;hs019;hc010;hc012;");
        Check.due("cut: lit, though nobody hangs", dark.cut(0), 1);
        Check.due("cut: none then either", dark.cut(1), 0);
        Counted seven = Told.land("f9;" + "hc019;".repeat(7));
        Check.due("cut: of seven alike the least", seven.cut(0), 0);
        Check.due("cut: six then", seven.cut(1), 6);
        Check.due("needed: none of seven", seven.cut(2), 0);
        // In FOG 9 each sees two cells: the last of the text is nearest to the SEA.
        Counted chain = Told.land("f9;hc006;hc008;hc010;hc012;hc014;hc016;hc018;");
        Check.due("cut: the seventh carries all", chain.cut(0), 6);
        Check.due("cut: none then", chain.cut(1), 0);
        Check.due("needed: all but the farthest", chain.cut(2), 126);
    }

    // "the CELL for a COTTAGE more by which most HOUSES HANG (it counted), of several the least; that (room or not)"
    private static void build() {
        Counted x = Told.land("f9;hc006;hc008;hc010;hc012;hc014;hc016;hc019;");
        // Six hang on one at 17 or 18 (it sees 16 and 19 or the SEA); on 17 it sees 19, who HANGS.
        Check.due("build: an eighth", x.build(0), 17);
        Check.due("build: eight hang", x.build(1), 8);
        Check.due("build: seven are there", x.count(0), 7);
        Counted alone = Told.land("f9;");
        Check.due("build: in fog 9 the least is 18", alone.build(0), 18);
        Check.due("build: itself alone", alone.build(1), 1);
        Counted asleep = Told.land("f9;hs000;");
        Check.due("build: others need not hang", asleep.build(0) * 10 + asleep.build(1), 181);
    }

    // "makes most HANG, more than now, of several the least; -9"
    private static void fellAndRaise() {
        for (String none : new String[] {"", "hs000;", "hc019;", "c159;hs000;", "c159;c169;hc000;"}) {
            Counted x = none.isEmpty() ? new Counted() : Told.land(none);
            Check.due("fell: none, " + none, x.fell(), -9);
            Check.due("raise: none, " + none, x.raise(), -9);
        }
        // 8 and 15 hide one from another and from the SEA: without 15 two hang, without 8 nobody.
        Check.due("fell: what opens most", Told.land("f7;c083;hc007;c153;hc014;hc009;").fell(), 15);
        // 17 is shut in: without 16 it sees the MIRROR, who hangs, without 18 the SEA.
        Check.due("fell: of two alike the least", Told.land("c163;c181;hm914;hc017;").fell(), 16);
        // Over 1 at 19 from 18 an EYE must be above 2; whoever has it shows it to the other.
        Check.due("raise: of two alike the least", Told.land("c191;hc018;hl018;n01;").raise(), 0);
        Check.due("raise: a low one to 3", Told.land("c191;hl018;n01;").raise(), 0);
        // From 10 over 1 at 16 an EYE must be above 2.5, from 0 over 1 at 15 above 4.
        Check.due("raise: to 4", Told.land("c161;hc010;").raise(), 0);
        Check.due("raise: to 3", Told.land("c161;hl010;n01;").raise(), 0);
        Check.due("raise: 4 is not above 4", Told.land("c151;hc000;").raise(), -9);
        Check.due("raise: 5 is", Told.land("c151;ht200;").raise(), 0);
    }

    // "so that in NIGHTS 0 .. n on (0 .. 12) together as many HANG as, were all CALLED, or more"
    private static void call() {
        // From NIGHT 21 it sleeps in 22 and 33 (1 and 12 on); with twelve WICKS sitting up burns all by 11 on.
        Counted x = Told.in(13, "hs919;u0;n08;");
        x.calls(0);
        Check.due("call: twelve wicks", x.house(0, 3), 12);
        Check.due("call: night", x.count(1), 21);
        Check.due("call(0)", x.call(0), 0);
        Check.due("call(1)", x.call(1), 1);
        Check.due("call(11): 11 are fewer than 12", x.call(11), 1);
        // 12 on it sleeps again: 11 by sleeping, 12 by sitting up.
        Check.due("call(12): 11 are fewer than 12", x.call(12), 1);
        x.nights(2);
        // From 23 the next is 33 (10 on): eleven WICKS are for 23 .. 33 called, for 23 .. 34 but 33 not.
        Check.due("call: eleven wicks", x.house(0, 3), 11);
        Check.due("call(9)", x.call(9), 0);
        Check.due("call(10)", x.call(10), 1);
        Check.due("call(11), as many", x.call(11), 0);
        Check.due("call(12), as many", x.call(12), 0);
        lastNightOfCall();
        moreThanAllCalled();
        Check.due("call: nobody", new Counted().call(0), 0);
        Check.due("call: seven who sleep", Told.land("hs019;".repeat(7)).call(0), 127);
        Check.due("call: not those who are called now", Told.land("hc019;hc019;u0;u1;").call(12), 0);
        Check.due("call: the dark one is not called", Told.land("f9;hs019;hs000;").call(12), 1);
    }

    // With thirteen NIGHTS 0 .. 12 the last evens out what was lost by sleeping in 1 on.
    private static void lastNightOfCall() {
        // From NIGHT 10 asleep in 11 and 22 (1 and 12 on); from 12 in 22 (10 on) alone; figure 8: 10, 20, 30.
        Counted x = Told.in(1, "hs819;u0;n08;");
        x.calls(0);
        Check.due("call: twelve wicks in night 9", x.house(0, 3) * 100 + x.count(1), 1209);
        Check.due("call(11), asleep in 10 and 20: 10 are fewer than 12", x.call(11), 1);
        x.nights(2);
        Check.due("call: eleven wicks in night 11", x.house(0, 3) * 100 + x.count(1), 1111);
        // Asleep in 20 (9 on): 11 NIGHTS are 11 .. 22 but one, so that 11 on evens it out.
        Check.due("call(8)", x.call(8), 0);
        Check.due("call(9)", x.call(9), 1);
        Check.due("call(10)", x.call(10), 1);
        Check.due("call(11)", x.call(11), 0);
        x.gives(0, 1);
        Check.due("call(11) with twelve wicks", x.call(11), 1);
        Check.due("call(12) with twelve wicks", x.call(12), 0);
        x.gives(0, 1);
        Check.due("call(12) with thirteen wicks", x.call(12), 1);
    }

    // "as many HANG as, were all CALLED, or more"
    private static void moreThanAllCalled() {
        // 2 (two WICKS) sees the SEA by 0 or 1 (a WICK each) alone; 1 sleeps in NIGHT 20. All CALLED, three hang in
        // 20 and nobody in 21; none CALLED, two in each.
        Counted x = Told.in(1, "hc019;hs019;u1;n01;hc018;c199;n18;");
        x.calls(1);
        Check.due("call: NIGHT 20", x.count(1), 20);
        Check.due("call: wicks", x.house(0, 3) * 100 + x.house(1, 3) * 10 + x.house(2, 3), 112);
        Check.due("call: now the second", x.call(0), 2);
        Check.due("call: four are more than three", x.call(1), 0);
    }

    // "over how many HOUSES at least it goes to the SEA"; "-9"; "7 the SEA"
    private static void news() {
        Counted chain = Told.land("f9;hc006;hc008;hc010;hc012;hc014;hc016;hc018;");
        for (int house = 0; house < 7; house++) {
            Check.due("news: over how many from " + house, chain.news(house, 0), 7 - house);
            Check.due("news: next of " + house, chain.news(house, 1), house + 1);
        }
        Check.due("farthest: seven off", chain.farthest(), 0);
        chain.moves(3, 0);
        for (int house = 0; house < 4; house++) {
            Check.due("news: none from " + house, chain.news(house, 0), -9);
            Check.due("news: no next of " + house, chain.news(house, 1), -9);
        }
        Check.due("farthest: three off", chain.farthest(), 4);
        Counted asleep = Told.land("hs019;");
        Check.due("news: who sleeps", asleep.news(0, 0), -9);
        Check.due("news: who sleeps", asleep.news(0, 1), -9);
        Check.due("farthest: nobody hangs", asleep.farthest(), -9);
        Check.due("farthest: nobody", new Counted().farthest(), -9);
        Check.due("farthest: of several the least", Told.land("hs019;hc019;hc000;").farthest(), 1);
        // 0 may go by 1 or 3; by those that HANG only: 2 sleeps.
        Counted ways = Told.land("f9;hc014;hs016;hc016;hc016;hc018;");
        Check.due("news: the least of those that hang", ways.news(0, 1), 2);
        Check.due("news: three", ways.news(0, 0), 3);
    }

    // ---- WICKS and NIGHTS together ----

    // "to whom a WICK more goes so that all HANG together .. is most, more than without, of several the least; -9"
    private static void share() {
        Counted out = Told.land("hc019;hc019;n20;");
        Check.due("share(0): lit by it now", out.share(0), 0);
        Check.due("share(30): lit by it now", out.share(30), 0);
        Check.due("share: nobody has got it", out.count(5), 0);
        Counted x = Told.land("hc019;w010;");
        Check.due("share(29)", x.share(29), -9);
        Check.due("share(30)", x.share(30), 0);
        x.gives(0, 1);
        Check.due("share(30) with 31", x.share(30), -9);
        x.gives(0, 99);
        Check.due("share(30) with 99", x.share(30), -9);
        Counted t = Told.land("ht019;n10;");
        Check.due("share: one is too few for a tower", t.share(30), -9);
        t.gives(0, 1);
        Check.due("share: the second is not", t.share(0), 0);
        Check.due("share: nobody", new Counted().share(0), -9);
        Check.due("share: who can't hang", Told.land("f9;hc000;n20;").share(30), -9);
        // 1 is lit without hanging; 0, burnt out, sees the SEA and is seen by it.
        Check.due("share: more by another", Told.land("f9;hc018;n20;hc016;").share(0), 0);
        Check.due("share: the second of two", Told.land("f9;hc016;n20;hc018;n20;").share(0), 1);
    }

    // "the least FOG (0 .. 9) in which nobody HANGS; -9"
    private static void fogged() {
        Check.due("fogged: nobody", new Counted().fogged(), 0);
        Check.due("fogged: who sleeps", Told.land("f5;hs019;").fogged(), 0);
        for (int cell = 0; cell <= 19; cell++) {
            // 20 less the CELL apart; so many are seen as long as twice FOG is at most the CELL.
            int due = cell >= 18 ? -9 : cell / 2 + 1;
            Check.due("fogged: at " + cell, Told.land("hc0" + Told.two(cell) + ";").fogged(), due);
            Check.due("fogged: at " + cell + ", in fog", Told.land("f9;hc0" + Told.two(cell) + ";").fogged(), due);
        }
    }

    // "the CELL of most HEIGHT, of several the least"
    private static void highest() {
        Counted x = new Counted();
        Check.due("highest: all 0", x.highest(), 0);
        for (int cell = 19; cell >= 0; cell--) {
            x.heaps(cell, 9);
            Check.due("highest: of all behind it", x.highest(), cell);
        }
        x.heaps(0, 8);
        Check.due("highest: 0 is lower now", x.highest(), 1);
    }

    // "the first pair .. by which neither has more by another one alone; -9"
    private static void two() {
        // Six NIGHTS from 0: a SLEEPER of figure 0 hangs in 1, 3, 5: 6 either way.
        Check.due("two: as much is not more", Told.land("hs019;hs019;").two(0, 1), 0);
        Check.due("two: called as now is nothing to it", Told.land("hs019;hs019;u0;u1;").two(0, 1), 0);
        // An OLD one of figure 0 hangs in 1 and 5 alone.
        Check.due("two: 4 against 6", Told.land("ho019;ho019;").two(0, 1), 11);
        Check.due("two: the first", Told.land("ho019;hs019;").two(0, 1), 10);
        Check.due("two: the second", Told.land("hs019;ho019;").two(0, 1), 1);
        Counted x = Told.land("ho019;hc019;u0;n05;w000;");
        x.calls(0);
        Check.due("two: ten wicks in night 5", x.house(0, 3) * 10 + x.count(1), 105);
        // From 5: in 5 and 7: 4; called in 5 .. 9: 10 less 6.
        Check.due("two: 4 against 4", x.two(0, 1), 0);
        x.gives(0, 1);
        Check.due("two: eleven wicks are ten", x.two(0, 1), 0);
        x.gives(0, 1);
        Check.due("two: 4 against 12 less 6", x.two(0, 1), 10);
        x.gives(0, 99);
        Check.due("two: six nights, no more", x.two(0, 1), 10);
        Check.due("two: who can't hang does not sit up", Told.land("f9;ho000;ho000;").two(0, 1), 0);
    }

    // "(1 by 1 for n 0)"; "0 as 0 by 1"; "told in least terms"; n 0 .. 7, t 2 .. 20
    private static void mist() {
        for (int t = 2; t <= 20; t++) {
            Counted x = Told.land("hc000;hs000;f0;");
            long clear = 1;
            long all = 1;
            for (int n = 0; n <= 7; n++) {
                // t less 1 and t have no divisor in common, nor have their powers.
                Check.due("mist: n " + n + ", t " + t + " above", x.mist(0, n, t, 0), clear);
                Check.due("mist: n " + n + ", t " + t + " below", x.mist(0, n, t, 1), all);
                Check.due("mist: asleep, n " + n + " above", x.mist(1, n, t, 0), n == 0 ? 1 : 0);
                Check.due("mist: asleep, n " + n + " below", x.mist(1, n, t, 1), 1);
                clear *= t - 1;
                all *= t;
            }
        }
        // FOG 9 alone, whatever it is now: at 18 one hangs in it, at 17 not.
        Check.due("mist: at 18", Told.land("hc018;").mist(0, 7, 2, 1), 1);
        Check.due("mist: at 17", Told.land("hc017;").mist(0, 7, 2, 1), 128);
        Check.due("mist: in fog 9 as now", Told.land("f9;hc017;").mist(0, 1, 20, 0), 0);
        Check.due("mist: in fog 9 as now, none", Told.land("f9;hc017;").mist(0, 0, 20, 0), 1);
        // "nobody burns less"
        Check.due("mist: six wicks, six nights", Told.land("hc019;n14;").mist(0, 6, 2, 0), 1);
        Check.due("mist: six wicks, seven nights", Told.land("hc019;n14;").mist(0, 7, 2, 0), 0);
        Check.due("mist: seven wicks, seven nights", Told.land("hc019;n13;").mist(0, 7, 2, 0), 1);
    }

    // "Fractions are told in least terms; 0 as 0 by 1."
    private static void mean() {
        Counted x = new Counted();
        int[] above = {0, 1, 1, 3, 1, 1, 3, 7, 2, 9, 1};
        int[] below = {1, 20, 10, 20, 5, 4, 10, 20, 5, 20, 2};
        for (int sum = 0; sum <= 9; sum++) {
            x.heaps(19, sum);
            Check.due("mean: above, of " + sum, x.mean(0), above[sum]);
            Check.due("mean: below, of " + sum, x.mean(1), below[sum]);
        }
        x.heaps(0, 1);
        Check.due("mean: above, of 10", x.mean(0), above[10]);
        Check.due("mean: below, of 10", x.mean(1), below[10]);
        for (int cell = 0; cell < 20; cell++) {
            x.heaps(cell, 9);
        }
        Check.due("mean: above, of 180", x.mean(0), 9);
        Check.due("mean: below, of 180", x.mean(1), 1);
        x.heaps(7, 8);
        Check.due("mean: above, of 179", x.mean(0), 179);
        Check.due("mean: below, of 179", x.mean(1), 20);
    }

    // ---- the ROW ----

    // "how many HANG behind 0, 1, .. NIGHTS": from an empty ROW to 16 numbers
    private static void whoSlept() {
        Check.due("slept: no houses, no row", new Counted().whoSlept(), 0);
        Check.due("slept: seven, no row", Told.land("hc019;".repeat(7)).whoSlept(), 127);
        Counted nobody = new Counted();
        Told.row(nobody, 0, 0);
        Check.due("slept: no houses", nobody.whoSlept(), 0);
        // With 15 WICKS two hang behind 0 .. 14 NIGHTS, nobody behind 15; without one of them the other.
        Counted x = Told.land("hc019;hc018;n05;");
        Told.row(x, 1, 1, 1, 1, 1, 1, 1, 1, 1, 1, 1, 1, 1, 1, 1);
        Check.due("slept: fifteen numbers", x.whoSlept(), 3);
        Told.row(x, 0);
        Check.due("slept: sixteen", x.whoSlept(), 3);
        Check.due("slept: the row stays", x.count(6), 16);
        x.gives(1, 1);
        Check.due("slept: the sixteenth tells", x.whoSlept(), 2);
        x.gives(0, 1);
        Check.due("slept: it is not so by either", x.whoSlept(), 0);
        Counted far = Told.land("hc019;");
        Told.row(far, 99);
        Check.due("slept: 99 never hang", far.whoSlept(), 0);
        Counted asleep = Told.land("hs019;");
        Told.row(asleep, 0);
        Check.due("slept: nobody hangs anyway", asleep.whoSlept(), 1);
    }

    // "KINDS (bits) of one by which all of it is so; FIGURES (bits 0 .. 9)"
    private static void whatItIs() {
        Counted x = Told.land("hs919;n05;");
        Check.due("what: no row, kinds", x.whatIs(0, 0), 63);
        Check.due("what: no row, figures", x.whatIs(0, 1), 1023);
        // NIGHTS 5 .. 20 by a SLEEPER: figure 9 sleeps in 11 alone, 8 in 10 and 20, 7 in 9 and 18.
        Told.row(x, 1, 1, 1, 1, 1, 1, 0, 1, 1, 1, 1, 1, 1, 1, 1);
        Check.due("what: fifteen numbers, s and l", x.whatIs(0, 0), 4 | 8);
        Check.due("what: fifteen numbers, figure 9", x.whatIs(0, 1), 1 << 9);
        Told.row(x, 1);
        Check.due("what: sixteen", x.whatIs(0, 1), 1 << 9);
        x.clear();
        Told.row(x, 1, 1, 1, 1, 1, 0, 1, 1, 1, 1, 1, 1, 1, 1, 1);
        Check.due("what: fifteen numbers, figure 8", x.whatIs(0, 1), 1 << 8);
        Told.row(x, 1);
        Check.due("what: the sixteenth is NIGHT 20", x.whatIs(0, 1), 0);
        Check.due("what: the row stays", x.count(6), 16);
        x.clear();
        Told.row(x, 0);
        // 5 is divided by 5 alone (figure 3); a MIRROR sleeps in it.
        Check.due("what: figure 3", x.whatIs(0, 1), 1 << 3);
        Check.due("what: a mirror", x.whatIs(0, 0), 16);
        x.turn(0, 0, 0);
        Check.due("what: a cottage of no figure", x.whatIs(0, 1), 0);
        x.clear();
        Told.row(x, 1);
        Check.due("what: a cottage of any", x.whatIs(0, 1), 1023);
        Check.due("what: figure 0: o and s are awake in 5", x.whatIs(0, 0), 63 & ~16);
    }

    // "the first that is not so; -9"; "whichever it answers, the ROW has none then"
    private static void judged() {
        Counted x = Told.land("c009;c158;c199;");
        Check.due("judged: no row", x.judge(), -9);
        Told.row(x, 9);
        Check.due("judged: one number", x.judge(), -9);
        Told.row(x, 8);
        Check.due("judged: the first", x.judge(), 0);
        Told.row(x, 99);
        Check.due("judged: no height is 99", x.judge(), 0);
        Told.row(x, 9, 0, 0, 0, 0, 0, 0, 0, 0, 0, 0, 0, 0, 0, 0, 8);
        Check.due("judged: sixteen", x.judge(), -9);
        Check.due("judged: none then", x.count(6), 0);
        Told.row(x, 9, 0, 0, 0, 0, 0, 0, 0, 0, 0, 0, 0, 0, 0, 0, 9);
        Check.due("judged: the sixteenth", x.judge(), 15);
        Check.due("judged: none then", x.count(6), 0);
        Told.row(x, 9, 0, 0, 0, 0, 0, 0, 0, 0, 0, 0, 0, 0, 0, 1, 9);
        Check.due("judged: the first of two", x.judge(), 14);
        Check.due("judged: no row again", x.judge(), -9);
        Told.row(x, 9);
        Check.due("judged: nothing is left of the one before", x.judge(), -9);
        Check.due("clear: an empty row", x.clear(), 0);
        Told.row(x, 9, 0, 0, 0, 0, 0, 0, 0, 0, 0, 0, 0, 0, 0, 0, 8);
        Check.due("clear: a full row", x.clear(), 16);
        Check.due("clear: and none", x.clear(), 0);
    }

    // ---- lots ----

    // "z becomes z times 1664525 and 1013904223 (an int); (z without its sign's bit by 256, cut) modulo m"
    private static void lots() {
        // Who sleeps in NIGHTS 2 and 4 burns two of its WICKS from NIGHT 1, and is awake in 5.
        // Seed 3 draws 1018897798, -1929822419: CELL 9, WICKS 4; -542632280, -949548569: CELL 10, WICKS 3;
        // 1647017498, -580077903: CELL 2, WICKS 3; -1559773092, 1668571147: CELL 4, WICKS 1.
        Counted x = Told.land("f5;hs019;n01;");
        int[] hang = {0, 1, 1, 1};
        int[] wicks = {2, 3, 4, 4};
        for (int n = 1; n <= 4; n++) {
            Check.due("lots: hang, seed 3, " + n, x.lots(n, 3, 0), hang[n - 1]);
            Check.due("lots: wicks, seed 3, " + n, x.lots(n, 3, 1), wicks[n - 1]);
        }
        // MIN differs from 0, and -1 from MAX, by the sign's bit alone, and so in all that comes of them.
        int[][] seeds = {
            {0, 0, 2, 2, 2}, {MIN, 0, 2, 2, 2}, {1, 1, 1, 3, 3}, {-1, 0, 0, 2, 2}, {MAX, 0, 0, 2, 2},
        };
        for (int[] seed : seeds) {
            for (int n = 1; n <= 4; n++) {
                Check.due("lots: wicks, seed " + seed[0] + ", " + n, x.lots(n, seed[0], 1), seed[n]);
            }
        }
        twoByLot();
        Check.due("lots: no houses", new Counted().lots(20, MIN, 1), 0);
        Check.due("lots: the night is from now", x.count(1), 1);
        Check.due("lots: the wicks stay", x.house(0, 3), 20);
    }

    // "each HOUSE, by numbers, in a CELL by a DRAW below 20, then WICKS by a DRAW below 5"
    private static void twoByLot() {
        // Seed 0 draws CELL 3, WICKS 2 for the first, CELL 6, WICKS 4 for the second: it keeps two, lit in NIGHT 5.
        Counted x = Told.land("f7;hc000;hs019;n01;");
        Check.due("lots: two, wicks", x.lots(1, 0, 1), 2);
        Check.due("lots: two, in fog 7 six is too far off the sea", x.lots(1, 0, 0), 0);
        x.fog(3);
        Check.due("lots: in fog 3 fourteen cells are not", x.lots(1, 0, 0), 1);
        x.fog(4);
        Check.due("lots: in fog 4 they are", x.lots(1, 0, 0), 0);
        // CALLED ones sit up in lots, too: four NIGHTS burn all four.
        x.calls(1);
        Check.due("lots: called, wicks", x.lots(1, 0, 1), 0);
    }

    // ---- THE IMAGE ----

    // "all that there is, but it, the ROW, letters, REFUSALS; ON from it all is as then"
    private static void image() {
        Counted x = Told.land("c005;c199;hc019;ht918;u1;f2;n03;");
        x.height(20);
        Told.row(x, 1, 2);
        x.letter('c');
        Check.due("image: NIGHT", x.image(), 3);
        Check.due("image: the row stays", x.count(6), 2);
        Check.due("image: the letter stays", x.count(7), 1);
        Check.due("image: the refusal stays", x.count(11), 1);
        x.height(20);
        x.row(3);
        x.letter('0');
        x.letter('0');
        toldOn(x);
        Check.due("image: ON", x.on(), 3);
        Check.due("image: the row is not of it", x.count(6), 3);
        Check.due("image: letters are not", x.count(7), 3);
        Check.due("image: refusals are not", x.count(11), 2);
        Check.due("image: they are not taken back", x.letter('7') + x.letter(';'), 9);
        Check.due("image: c007; is told on", x.land(), 1);
        Check.due("image: it comes of it", x.height(0), 7);
        Check.due("image: ON again, as then", x.on() * 10 + x.height(0), 35);
        Counted empty = new Counted();
        Check.due("image: of a new object", empty.image(), 0);
        Told.more(empty, "hc019;n60;f9;c009;");
        Check.due("image: ON to no houses", empty.on(), 0);
        Check.due("image: none", empty.count(0) + empty.count(2) + empty.height(0) + empty.count(5), 0);
        Told.more(empty, "hs019;");
        Check.due("image: a house told then is as any", empty.house(0, 3) * 10 + empty.house(0, 4), 200);
    }

    private static void toldOn(Counted x) {
        x.heaps(0, 1);
        x.heaps(19, 0);
        x.moves(0, 0);
        x.gives(1, 9);
        x.turn(1, 5, 0);
        x.calls(0);
        x.calls(1);
        x.fog(0);
        x.nights(60);
        x.on();
        Check.due("image: heights", x.height(0) * 10 + x.height(19), 59);
        Check.due("image: cells", x.house(0, 2) * 100 + x.house(1, 2), 1918);
        Check.due("image: wicks", x.house(0, 3) * 100 + x.house(1, 3), 1714);
        Check.due("image: kind and figure", x.house(1, 0) * 10 + x.house(1, 1), 19);
        Check.due("image: called", x.house(0, 4) * 10 + x.house(1, 4), 1);
        Check.due("image: fog", x.count(2), 2);
        Check.due("image: night", x.count(1), 3);
        x.heaps(0, 1);
        x.nights(1);
    }

    // "An object is used for at most 512 calls after it has been made"
    private static void fiveHundredAndTwelveCalls() {
        Counted x = new Counted();
        for (int i = 1; i <= 511; i++) {
            Check.due("512 calls: the " + i + "th", x.on(), -3);
        }
        Check.due("512 calls: the last", x.count(13), 511);
        Counted y = Told.land("hc019;");
        // Seven are made by telling; 503 more call and call off.
        for (int i = 1; i <= 503; i++) {
            y.calls(0);
        }
        Check.due("512 calls: the last but one", y.house(0, 4), 1);
        Check.due("512 calls: the last behind many changes", y.calls(0), 0);
        Check.due("512 calls: so many were made", y.made(), 512);
    }
}
