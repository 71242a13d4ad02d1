/** What a told LAND may be: its letters and STATEMENTS, both kinds of FAULT and the place that each tells. */
public final class LandTests {
    private static final String[] FORMS = {"c000;", "hc000;", "m000;", "w000;", "u0;", "f0;", "n01;"};

    public static void main(String[] args) {
        atLeastOneStatement();
        everyFirstLetter();
        everyLetterAtEveryPlace();
        theEndIfSomethingLacks();
        everyNumberOfTwoDigits();
        everyHouseToldOf();
        firstStatementThatIsNotAsItMustBe();
        kindOneAheadOfKindTwo();
        nightAbove999();
        noRoomForMore();
        behindAllAheadOfIt();
        ninetySixLetters();
        withFaultNothing();
        withoutFaultAll();
        Check.end("LandTests");
    }

    private static int land(String text) {
        return Told.tell(new Counted(), text);
    }

    private static void due(String text, int want) {
        Check.due("land of \"" + text + "\"", land(text), want);
    }

    // "At least one STATEMENT."
    private static void atLeastOneStatement() {
        due("", -1000);
        due(";", -1000);
        due("f0;", 1);
        due("f0;;", -1003);
        Counted x = new Counted();
        Check.due("no letters", x.land(), -1000);
        Check.due("no letters again", x.land(), -1000);
        Told.more(x, "f1;");
        Check.due("no letters are left", x.land(), -1000);
        Check.due("what came stays", x.count(2), 1);
    }

    // "the place of the first letter with which no LAND can go on": seven letters begin a STATEMENT
    private static void everyFirstLetter() {
        for (int c = 0; c <= 255; c++) {
            boolean begins = "chmwufn".indexOf(c) >= 0;
            due("" + (char) c, begins ? -1001 : -1000);
            due("f0;" + (char) c, begins ? -1004 : -1003);
        }
    }

    private static void everyLetterAtEveryPlace() {
        for (String form : FORMS) {
            for (int place = 1; place < form.length(); place++) {
                for (int c = 0; c <= 255; c++) {
                    String text = form.substring(0, place) + (char) c + form.substring(place + 1);
                    int due = goesOn(form, place, c) ? isAsItMustBe(text) ? 2 : -2006 : -1006 - place;
                    due("hc000;" + text, due);
                }
            }
        }
    }

    private static boolean goesOn(String form, int place, int c) {
        if (form.charAt(place) == ';') {
            return c == ';';
        }
        if (form.charAt(0) == 'h' && place == 1) {
            return "ctslmo".indexOf(c) >= 0;
        }
        return c >= '0' && c <= '9';
    }

    /** Of a STATEMENT behind one HOUSE, in NIGHT 0. */
    private static boolean isAsItMustBe(String text) {
        switch (text.charAt(0)) {
            case 'c': return Integer.parseInt(text.substring(1, 3)) <= 19;
            case 'h': return Integer.parseInt(text.substring(3, 5)) <= 19;
            case 'm': return text.charAt(1) == '0' && Integer.parseInt(text.substring(2, 4)) <= 19;
            case 'w': case 'u': return text.charAt(1) == '0';
            case 'n': return !text.equals("n00;") && Integer.parseInt(text.substring(1, 3)) <= 60;
            default: return true;
        }
    }

    // "(the end, if something lacks)"
    private static void theEndIfSomethingLacks() {
        String text = "c199;ht919;m000;w099;u0;f9;n60;";
        int statements = 0;
        for (int length = 1; length <= text.length(); length++) {
            boolean whole = text.charAt(length - 1) == ';';
            statements += whole ? 1 : 0;
            due(text.substring(0, length), whole ? statements : -1000 - length);
        }
    }

    // "a CELL (2 digits)" 0 .. 19; "NIGHTS (2 digits, 1 .. 60)"; "WICKS (2 digits)" 0 .. 99
    private static void everyNumberOfTwoDigits() {
        for (int number = 0; number <= 99; number++) {
            String two = Told.two(number);
            due("c" + two + "9;", number <= 19 ? 1 : -2000);
            due("hc9" + two + ";", number <= 19 ? 1 : -2000);
            due("hc000;m0" + two + ";", number <= 19 ? 2 : -2006);
            due("n" + two + ";", number >= 1 && number <= 60 ? 1 : -2000);
            Counted x = Told.land("hc000;n20;w0" + two + ";");
            Check.due("so many wicks more", x.house(0, 3), number);
        }
        for (int digit = 0; digit <= 9; digit++) {
            Counted x = Told.land("c05" + digit + ";hc" + digit + "05;f" + digit + ";");
            Check.due("height", x.height(5), digit);
            Check.due("figure", x.house(0, 1), digit);
            Check.due("fog", x.count(2), digit);
        }
    }

    // "no such HOUSE so far"
    private static void everyHouseToldOf() {
        for (int houses = 0; houses <= 7; houses++) {
            for (int house = 0; house <= 9; house++) {
                String text = "hc000;".repeat(houses);
                int due = house < houses ? houses + 1 : -2000 - 6 * houses;
                due(text + "m" + house + "19;", due);
                due(text + "w" + house + "00;", due);
                due(text + "u" + house + ";", due);
            }
        }
    }

    // "else kind 2 the place of the first letter of the first STATEMENT that .. is not as it must be"
    private static void firstStatementThatIsNotAsItMustBe() {
        due("c190;c200;m900;", -2005);
        due("m000;c200;n00;", -2000);
        due("f9;n60;hc019;u0;w099;m019;c199;n61;u1;", -2031);
        // The STATEMENT's place is told, not that of the number in it.
        due("hc000;hc099;", -2006);
        due("hc000;m099;", -2006);
    }

    // "FAULT: kind 1 ..; else kind 2"
    private static void kindOneAheadOfKindTwo() {
        due("c200;x", -1005);
        due("c200;c", -1006);
        due("n00;u9;f", -1008);
        due("hc020;hc000", -1011);
        due("hc000;".repeat(8) + "f0", -1050);
        due("c20;", -1003);
        due("n61", -1003);
    }

    // "NIGHT above 999"
    private static void nightAbove999() {
        for (int left = 0; left <= 62; left++) {
            Counted x = new Counted();
            for (int toGo = 999 - left; toGo > 0; toGo -= 60) {
                x.nights(Math.min(60, toGo));
            }
            int more = Math.min(60, left + 1);
            Check.due("one NIGHT too many of " + left, Told.tell(x, "f1;n" + Told.two(more) + ";"), left >= 60 ? 2 : -2003);
            Check.due("NIGHT", x.count(1), left >= 60 ? 999 - left + 60 : 999 - left);
            Check.due("FOG", x.count(2), left >= 60 ? 1 : 0);
            if (left > 0 && left < 60) {
                Check.due("as many as are left", Told.tell(x, "n" + Told.two(left) + ";"), 1);
                Check.due("NIGHT 999", x.count(1), 999);
                Check.due("none more", Told.tell(x, "n01;"), -2000);
                Check.due("none more", Told.tell(x, "f2;n60;"), -2003);
                Check.due("but what takes no NIGHT", Told.tell(x, "f2;hc000;"), 2);
            }
        }
        due("n60;".repeat(16) + "n39;", 17);
        due("n60;".repeat(16) + "n40;", -2064);
        due("n60;".repeat(16) + "n38;n01;", 18);
        due("n60;".repeat(16) + "n38;n02;", -2068);
        due("n60;".repeat(17), -2064);
    }

    // "HOUSES .. (7 at most)"; "no room for more"
    private static void noRoomForMore() {
        for (int before = 0; before <= 7; before++) {
            Counted x = new Counted();
            if (before > 0) {
                Told.more(x, "hs319;".repeat(before));
            }
            Check.due("one too many behind " + before, Told.tell(x, "hc000;".repeat(8 - before)), -2000 - 6 * (7 - before));
            Check.due("none came", x.count(0), before);
            if (before < 7) {
                Told.more(x, "hc000;".repeat(7 - before));
            }
            Check.due("seven", x.count(0), 7);
            Check.due("no room", Told.tell(x, "f1;hc000;"), -2003);
            Check.due("but for the rest", Told.tell(x, "m600;u6;w699;c009;n01;f2;"), 6);
        }
    }

    // "that, behind all ahead of it in the text, is not as it must be"
    private static void behindAllAheadOfIt() {
        due("u0;hc000;", -2000);
        due("hc000;u0;", 2);
        due("hc000;m119;hc000;", -2006);
        due("hc000;hc000;m119;", 3);
        due("hc000;w101;hc000;", -2006);
        due("hc000;".repeat(6) + "u6;hc000;", -2036);
        due("hc000;".repeat(7) + "u6;", 8);
        // A HOUSE burns in the NIGHTS told behind it, and has what is told behind them.
        Counted x = Told.land("n07;hc019;n20;w005;n02;hc019;");
        Check.due("wicks of the first", x.house(0, 3), 3);
        Check.due("wicks of the second", x.house(1, 3), 20);
        Check.due("night", x.count(1), 29);
        // Moved, heaped, called and fogged twice: the last counts.
        Counted y = Told.land("hc000;m019;m007;c073;c074;u0;u0;u0;f9;f2;");
        Check.due("cell", y.house(0, 2), 7);
        Check.due("eye", y.house(0, 6), 5);
        Check.due("called", y.house(0, 4), 1);
        Check.due("fog", y.count(2), 2);
    }

    // "told in letters, one by one (96 at most)"
    private static void ninetySixLetters() {
        String full = "f0;".repeat(31);
        due(full + "f9;", 32);
        due(full + "x00", -1093);
        due(full + "fx;", -1094);
        due(full + "f0x", -1095);
        due(full + "c00", -1096);
        due(full + "u0;", -2093);
        due("x" + "c".repeat(95), -1000);
        due("c".repeat(96), -1001);
        Counted x = new Counted();
        for (int i = 1; i <= 96; i++) {
            Check.due("letter", x.letter((full + "f7;").charAt(i - 1)), i);
        }
        Check.due("no room", x.letter('f'), -6);
        Check.due("what was told is a land", x.land(), 32);
        Check.due("its last statement came", x.count(2), 7);
        Check.due("there is room", x.letter('f'), 1);
    }

    // "with one nothing"; "The letters .. are no more (with a FAULT neither)"; "(nothing is counted)"
    private static void withFaultNothing() {
        String begin = "c005;hc000;m019;w099;u0;f9;n60;hm500;";
        for (String end : new String[] {"x", "c", "c0", "c00;", "c200;", "hc020;", "m200;", "w200;", "u2;", "n00;", "n61;"}) {
            Counted x = Told.land("c001;f1;n01;");
            x.image();
            x.row(5);
            int got = Told.tell(x, begin + end);
            Check.due("a fault with " + end, got < -1000 && got > -3000 ? 1 : 0, 1);
            Check.due("height", x.height(0), 1);
            Check.due("houses", x.count(0), 0);
            Check.due("night", x.count(1), 1);
            Check.due("fog", x.count(2), 1);
            Check.due("lit, hanging, wicks", x.count(3) + x.count(4) + x.count(5), 0);
            Check.due("the row", x.count(6), 1);
            Check.due("letters are no more", x.count(7), 0);
            for (int what = 11; what <= 16; what++) {
                Check.due("nothing is counted", x.count(what), 0);
            }
            Check.due("the image", x.on(), 1);
            // A HOUSE told next is the first and begins like any.
            Told.more(x, "hs219;");
            Check.due("wicks", x.house(0, 3) * 10 + x.house(0, 4), 200);
        }
    }

    // "Without FAULT all of it comes": on top of what there was
    private static void withoutFaultAll() {
        Counted x = Told.land("c001;c195;ht919;f3;n02;");
        x.row(7);
        Check.due("three more", Told.tell(x, "hs318;c002;u1;"), 3);
        Check.due("letters are no more", x.count(7), 0);
        Check.due("the row stays", x.count(6), 1);
        Check.due("told again", x.height(0), 2);
        Check.due("not told again", x.height(19), 5);
        Check.due("houses", x.count(0), 2);
        Check.due("the first", x.house(0, 0) * 10 + x.house(0, 1), 19);
        Check.due("the second", x.house(1, 0) * 10 + x.house(1, 1), 23);
        Check.due("called", x.house(0, 4) * 10 + x.house(1, 4), 1);
        Check.due("fog", x.count(2), 3);
        Check.due("night", x.count(1), 2);
    }
}
