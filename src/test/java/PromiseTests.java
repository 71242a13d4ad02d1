import java.lang.reflect.Constructor;
import java.lang.reflect.Method;
import java.lang.reflect.Modifier;
import java.util.ArrayList;
import java.util.Arrays;
import java.util.List;

/** For each promise of the document what it says, with answers worked out by hand. */
public final class PromiseTests {
    private static final int MIN = Integer.MIN_VALUE;
    private static final int MAX = Integer.MAX_VALUE;

    public static void main(String[] args) {
        face();
        newObject();
        letter();
        land();
        landKindOne();
        landKindTwo();
        landFaultChangesNothing();
        house();
        kinds();
        height();
        heaps();
        moves();
        gives();
        calls();
        fog();
        turn();
        nights();
        litThen();
        hangThen();
        wicksThen();
        dark();
        first();
        sees();
        hill();
        leastEye();
        cut();
        build();
        fell();
        raise();
        call();
        news();
        farthest();
        spend();
        share();
        longest();
        fogged();
        highest();
        two();
        mist();
        mean();
        whoSlept();
        whatIs();
        row();
        judge();
        clear();
        lots();
        image();
        on();
        count();
        questionsChangeNothing();
        Check.end("PromiseTests");
    }

    // ---- helpers ----

    private static void due(String what, long got, long want) {
        Check.due(what, got, want);
    }

    private static void same(String what, String got, String want) {
        Check.same(what, got, want);
    }

    private static void letters(Counted x, String text) {
        for (int i = 0; i < text.length(); i++) {
            due("letter " + i + " of " + text, x.letter(text.charAt(i)), i + 1);
        }
    }

    private static int tell(Counted x, String text) {
        return Told.tell(x, text);
    }

    private static Counted told(String text) {
        return Told.land(text);
    }

    private static void rows(Counted x, int... numbers) {
        for (int v : numbers) {
            x.row(v);
        }
    }

    /** All that can be seen of the state, but how many refusals there were. */
    private static String state(Counted x) {
        StringBuilder s = new StringBuilder();
        for (int what = 0; what <= 7; what++) {
            s.append(x.count(what)).append(' ');
        }
        for (int cell = 0; cell < 20; cell++) {
            s.append(x.height(cell)).append(',');
        }
        for (int house = 0; house < x.count(0); house++) {
            for (int what = 0; what <= 7; what++) {
                s.append(x.house(house, what)).append(what == 7 ? ';' : ' ');
            }
        }
        return s.toString();
    }

    private static long[] refusals(Counted x) {
        long[] counts = new long[6];
        for (int i = 0; i < 6; i++) {
            counts[i] = x.count(11 + i);
        }
        return counts;
    }

    // ---- the face ----

    private static void face() {
        List<String> members = new ArrayList<>();
        for (Method m : EachSeesTheNext.class.getDeclaredMethods()) {
            if (!Modifier.isPrivate(m.getModifiers()) && !m.isSynthetic()) {
                members.add((Modifier.isPublic(m.getModifiers()) ? "" : "not public ") + m.getReturnType() + " "
                    + m.getName() + m.getParameterCount());
            }
        }
        members.sort(null);
        same("the face", members.toString(), "[int build1, int call1, int calls1, int clear0, int count1, int cut1, "
            + "int dark1, int farthest0, int fell0, int first1, int fog1, int fogged0, int gives2, int hangThen1, "
            + "int heaps2, int height1, int highest0, int hill2, int house2, int image0, int judge0, int land0, "
            + "int leastEye1, int letter1, int litThen1, int longest1, int lots3, int moves2, int news2, int nights1, "
            + "int on0, int raise0, int row1, int sees1, int share1, int spend1, int turn3, int two2, int whatIs2, "
            + "int whoSlept0, int wicksThen2, long mean1, long mist4]");
        Constructor<?>[] constructors = EachSeesTheNext.class.getDeclaredConstructors();
        due("constructors", constructors.length, 1);
        due("its parameters", constructors[0].getParameterCount(), 0);
        due("the class is public and final", EachSeesTheNext.class.getModifiers(), Modifier.PUBLIC | Modifier.FINAL);
    }

    // ---- 1 ----

    private static void newObject() {
        Counted x = new Counted();
        for (int cell = 0; cell < 20; cell++) {
            due("1: height(" + cell + ")", x.height(cell), 0);
        }
        for (int what = 0; what <= 7; what++) {
            due("1: count(" + what + ")", x.count(what), 0);
        }
        for (int what = 11; what <= 16; what++) {
            due("1: count(" + what + ")", x.count(what), 0);
        }
        due("1: on()", x.on(), -3);
    }

    // ---- 2 ----

    private static void letter() {
        Counted x = new Counted();
        due("2: letter(0)", x.letter(0), 1);
        due("2: letter(255)", x.letter(255), 2);
        for (int i = 3; i <= 96; i++) {
            due("2: letter the " + i + "th", x.letter('c'), i);
        }
        due("2: count(7)", x.count(7), 96);
        due("2: land() of them", x.land(), -1000);
        due("2: there is room again", x.letter('c'), 1);
    }

    // ---- 3 ----

    private static void land() {
        Counted x = told("c195;c000;ht919;hc003;m100;w079;w180;u0;f3;n02;");
        due("3: letters are no more", x.count(7), 0);
        due("3: height(19)", x.height(19), 5);
        due("3: houses", x.count(0), 2);
        due("3: house 0's kind", x.house(0, 0), 1);
        due("3: house 0's figure", x.house(0, 1), 9);
        due("3: house 0's cell", x.house(0, 2), 19);
        due("3: house 0's wicks, 99 at most, then two nights", x.house(0, 3), 99 - 4);
        due("3: house 0 is called", x.house(0, 4), 1);
        due("3: house 1 was moved", x.house(1, 2), 0);
        due("3: house 1's wicks, 100 held at 99, then two nights", x.house(1, 3), 99 - 2);
        due("3: fog", x.count(2), 3);
        due("3: night", x.count(1), 2);
        due("3: told again", tell(x, "u0;"), 1);
        due("3: not called any more", x.house(0, 4), 0);
        due("3: a full text", tell(x, "n01;".repeat(24)), 24);
        due("3: its nights", x.count(1), 26);
        due("3: a house lives on what it has", x.house(1, 3), 99 - 26);
        String kinds = "";
        Counted y = told("hc000;ht001;hs002;hl003;hm004;ho019;");
        for (int i = 0; i < 6; i++) {
            kinds += y.house(i, 0);
        }
        same("3: letters of kinds", kinds, "012345");
        Counted z = told("hs009;u0;n60;w030;");
        due("3: sits up, burns out in sixty nights, then is given thirty", z.house(0, 3), 30);
        due("3: new houses are not called", told("hs009;").house(0, 4), 0);
    }

    private static void landFault(String text, int fault) {
        Counted x = new Counted();
        String before = state(x);
        due("3: land of \"" + text + "\"", tell(x, text), fault);
        same("3: nothing comes of \"" + text + "\"", state(x), before);
        same("3: no refusal counts for \"" + text + "\"", Arrays.toString(refusals(x)), "[0, 0, 0, 0, 0, 0]");
    }

    private static void landKindOne() {
        landFault("", -1000);
        landFault(";", -1000);
        landFault("C000;", -1000);
        landFault("c", -1001);
        landFault("c/00;", -1001);
        landFault("c0:0;", -1002);
        landFault("c00;", -1003);
        landFault("c000", -1004);
        landFault("c0000", -1004);
        landFault("c000;;", -1005);
        landFault("c000;c", -1006);
        landFault("hx000;", -1001);
        landFault("hC000;", -1001);
        landFault("h0000;", -1001);
        landFault("hc;", -1002);
        landFault("hc00;", -1004);
        landFault("hc000", -1005);
        landFault("m00;", -1003);
        landFault("w00;", -1003);
        landFault("w0x;", -1002);
        landFault("u;", -1001);
        landFault("u00;", -1002);
        landFault("f00;", -1002);
        landFault("f0", -1002);
        landFault("n1;", -1002);
        landFault("n010;", -1003);
        landFault("n01;x", -1004);
        landFault("c" + (char) 255 + "00;", -1001);
        // A broken letter is told before a statement that is not as it must be, wherever they stand.
        landFault("c200;n00;x", -1009);
        landFault("c200;u", -1006);
    }

    private static void landKindTwo() {
        landFault("c200;", -2000);
        landFault("c199;c990;", -2005);
        landFault("hc020;", -2000);
        landFault("m000;", -2000);
        landFault("hc000;m100;", -2006);
        landFault("hc000;m020;", -2006);
        landFault("m000;hc000;", -2000);
        landFault("w000;", -2000);
        landFault("hc000;w199;", -2006);
        landFault("u0;", -2000);
        landFault("hc000;u0;u1;", -2009);
        landFault("n00;", -2000);
        landFault("f9;n61;", -2003);
        landFault("hc000;".repeat(7) + "hc000;", -2042);
        landFault("n60;".repeat(16) + "n39;n01;", -2000 - 68);
        due("3: up to night 999", tell(new Counted(), "n60;".repeat(16) + "n39;"), 17);
        due("3: seven houses", tell(new Counted(), "hc000;".repeat(7)), 7);
        Counted x = told("hc000;".repeat(5));
        due("3: houses of before count for the room", tell(x, "hc000;hc000;hc000;"), -2012);
        due("3: none came", x.count(0), 5);
        Counted y = told("n60;".repeat(16));
        due("3: nights of before count", tell(y, "n40;"), -2000);
        due("3: 999 it may be", tell(y, "n39;"), 1);
    }

    private static void landFaultChangesNothing() {
        Counted x = told("c053;hc010;hs219;u1;f2;n03;");
        String before = state(x);
        due("3: fault 2 behind much", tell(x, "c009;hc000;m000;w050;u1;f9;n05;n00;"), -2000 - 31);
        same("3: nothing of it came", state(x), before);
        due("3: fault 1 behind much", tell(x, "c009;hc000;m000;w050;u1;f9;n05;n0"), -1000 - 33);
        same("3: nothing of it came", state(x), before);
        due("3: no letters are left", x.letter('c'), 1);
        x.land();
        x.heaps(7, 6);
        x.moves(0, 1);
        due("3: a land goes on from what was changed by calls", tell(x, "f4;"), 1);
        due("3: the height stays", x.height(7), 6);
        due("3: the cell stays", x.house(0, 2), 1);
    }

    // ---- 4, and the kinds ----

    private static void house() {
        Counted x = told("c134;ht713;hs000;u1;");
        int[][] want = {{1, 7, 13, 20, 0, 1, 8, 2}, {2, 0, 0, 20, 1, 1, 1, 1}};
        for (int house = 0; house < 2; house++) {
            for (int what = 0; what < 8; what++) {
                due("4: house(" + house + ", " + what + ")", x.house(house, what), want[house][what]);
            }
        }
        x.calls(1);
        due("4: it sleeps in night 0", x.house(1, 5), 0);
    }

    private static void kindOf(String letter, int eye0, int eye9, int burns, String asleepByNights) {
        Counted x = told("h" + letter + "000;h" + letter + "900;h" + letter + "300;w299;");
        due("kind " + letter + ": eye, figure 0", x.house(0, 6), eye0);
        due("kind " + letter + ": eye, figure 9", x.house(1, 6), eye9);
        due("kind " + letter + ": burns", x.house(0, 7), burns);
        StringBuilder asleep = new StringBuilder();
        for (int n = 0; n <= 12; n++) {
            asleep.append((x.litThen(n) >> 2 & 1) == 1 ? "." : "z");
        }
        same("kind " + letter + ": asleep with figure 3", asleep.toString(), asleepByNights);
    }

    private static void kinds() {
        kindOf("c", 1, 1, 1, ".............");
        kindOf("t", 1, 5, 2, ".............");
        kindOf("s", 1, 1, 1, "z....z....z..");
        kindOf("l", 0, 0, 1, "z....z....z..");
        kindOf("m", 3, 7, 2, ".z.z.z.z.z.z.");
        kindOf("o", 1, 1, 2, "z..z.zz..zz.z");
        Counted x = told("hs000;hs900;w099;w199;");
        StringBuilder asleep = new StringBuilder();
        for (int n = 0; n <= 12; n++) {
            asleep.append(3 - x.litThen(n));
        }
        same("kinds: sleepers of figure 0 and 9", asleep.toString(), "3010101010121");
        for (int kind = 0; kind < 6; kind++) {
            Counted y = told("hc900;u0;n01;n60;w003;");
            y.turn(0, kind, 1);
            due("kinds: called ones never sleep, kind " + kind, y.house(0, 5), 1);
            int left = kind == 1 || kind == 4 || kind == 5 ? 1 : 2;
            due("kinds: one night on the low one sees no sea, one wick is too few for two",
                y.nights(1), kind == 0 || kind == 2 ? 1 : 0);
            due("kinds: wicks then", y.house(0, 3), left);
            due("kinds: one wick is not enough for two", y.house(0, 5), left == 1 ? 0 : 1);
        }
    }

    // ---- 5 .. 12 ----

    private static void height() {
        Counted x = told("c009;c191;");
        due("5: height(0)", x.height(0), 9);
        due("5: height(19)", x.height(19), 1);
    }

    private static void heaps() {
        Counted x = told("hc019;");
        due("6: heaps(19, 9)", x.heaps(19, 9), 0);
        due("6: heaps(19, 4)", x.heaps(19, 4), 9);
        due("6: height(19)", x.height(19), 4);
        due("6: height(18)", x.height(18), 0);
        due("6: the eye is higher", x.house(0, 6), 5);
    }

    private static void moves() {
        Counted x = told("hc004;hc005;");
        due("7: moves(0, 19)", x.moves(0, 19), 4);
        due("7: moves(0, 5)", x.moves(0, 5), 19);
        due("7: several may be in one", x.house(0, 2) * 100 + x.house(1, 2), 505);
    }

    private static void gives() {
        Counted x = told("hc004;");
        due("8: gives(0, 0)", x.gives(0, 0), 20);
        due("8: gives(0, 78)", x.gives(0, 78), 98);
        due("8: gives(0, 99)", x.gives(0, 99), 99);
        due("8: house(0, 3)", x.house(0, 3), 99);
    }

    private static void calls() {
        Counted x = told("hs004;hs004;");
        due("9: calls(1)", x.calls(1), 1);
        due("9: it is lit", x.count(3), 2);
        due("9: calls(0)", x.calls(0), 1);
        due("9: calls(1)", x.calls(1), 0);
        due("9: the other is lit", x.count(3), 1);
    }

    private static void fog() {
        Counted x = told("hc004;");
        due("10: fog(2)", x.fog(2), 0);
        due("10: 16 cells apart with fog 2", x.count(4), 1);
        due("10: fog(3)", x.fog(3), 2);
        due("10: 16 cells apart with fog 3", x.count(4), 0);
        due("10: count(2)", x.count(2), 3);
    }

    private static void turn() {
        Counted x = told("ht704;w005;u0;");
        due("11: turn(0, 5, 9)", x.turn(0, 5, 9), 17);
        due("11: turn(0, 0, 0)", x.turn(0, 0, 0), 59);
        due("11: turn(0, 4, 6)", x.turn(0, 4, 6), 0);
        due("11: kind", x.house(0, 0), 4);
        due("11: figure", x.house(0, 1), 6);
        due("11: the cell stays", x.house(0, 2), 4);
        due("11: the wicks stay", x.house(0, 3), 25);
        due("11: called stays", x.house(0, 4), 1);
    }

    private static void nights() {
        Counted x = told("hc019;hs019;hm010;");
        due("12: in night 0", x.count(4), 5);
        due("12: nights(1), the mirror sleeps", x.nights(1), 2);
        due("12: who", x.count(4), 3);
        due("12: wicks of the cottage", x.house(0, 3), 19);
        due("12: wicks of the sleeper", x.house(1, 3), 20);
        due("12: wicks of the mirror", x.house(2, 3), 18);
        due("12: nights(60)", x.nights(60), 0);
        due("12: night", x.count(1), 61);
        due("12: all is burnt", x.count(5), 0);
        for (int i = 0; i < 15; i++) {
            x.nights(60);
        }
        due("12: night 961", x.count(1), 961);
        due("12: nights(39) above 999", x.nights(39), -6);
        due("12: nights(38)", x.nights(38), 0);
        due("12: night 999", x.count(1), 999);
        due("12: nights(1) in night 999", x.nights(1), -6);
        due("12: asleep in night 1, not in 2", told("hm019;").nights(1), 0);
        due("12: awake in night 2, not in 3", told("hm019;").nights(2), 1);
    }

    // ---- 13 .. 17 ----

    private static void litThen() {
        Counted x = told("hc001;c019;hl000;ho900;");
        due("13: litThen(0)", x.litThen(0), 1);
        due("13: litThen(1)", x.litThen(1), 7);
        due("13: litThen(2)", x.litThen(2), 5);
        due("13: litThen(3)", x.litThen(3), 3);
        due("13: litThen(19)", x.litThen(19) & 1, 1);
        due("13: litThen(20)", x.litThen(20) & 1, 0);
        due("13: litThen(60), the low one has burnt 20 of 30 nights", x.litThen(60), 0);
        Counted y = told("n60;".repeat(14) + "n59;hs015;n60;n40;w099;");
        due("13: night 999 is odd", y.litThen(0), 1);
        due("13: in thought night passes 999", y.litThen(51), 0);
        due("13: night 1049 is odd", y.litThen(50), 1);
        due("13: it stays 999", y.count(1), 999);
    }

    private static void hangThen() {
        // The cottage at 19 stands on high ground; the low one sees the sea only over it.
        Counted x = told("c199;hc019;hl000;");
        due("14: sees of the low one", x.sees(1), 1);
        due("14: hangThen(0)", x.hangThen(0), 1);
        due("14: hangThen(1)", x.hangThen(1), 3);
        due("14: hangThen(2)", x.hangThen(2), 1);
        due("14: hangThen(19)", x.hangThen(19), 3);
        due("14: hangThen(21), who is first is dark", x.hangThen(21), 0);
        due("14: it is lit all the same", x.litThen(21), 2);
        chainHangs();
    }

    // Fog 7 lets 6 cells be seen: a chain of cottages from the sea.
    private static void chainHangs() {
        Counted x = told("f7;hc002;hc008;hc014;");
        due("14: the chain", x.count(4), 7);
        x.moves(1, 9);
        due("14: 7 cells are too far", x.count(4), 4 | 2);
        x.moves(1, 7);
        due("14: on the other side, too", x.count(4), 4);
        x.moves(2, 13);
        due("14: nor the sea", x.count(4), 0);
        Counted y = told("f7;ht002;hs008;hc014;");
        due("14: one who sleeps hands nothing on", y.count(4), 4);
    }

    private static void wicksThen() {
        Counted x = told("hm001;ht000;w101;");
        due("15: wicksThen(0, 0)", x.wicksThen(0, 0), 20);
        due("15: wicksThen(0, 1)", x.wicksThen(0, 1), 18);
        due("15: wicksThen(0, 2)", x.wicksThen(0, 2), 18);
        due("15: wicksThen(0, 18)", x.wicksThen(0, 18), 2);
        due("15: wicksThen(0, 60)", x.wicksThen(0, 60), 0);
        due("15: wicksThen(1, 9)", x.wicksThen(1, 9), 3);
        due("15: one is left over", x.wicksThen(1, 60), 1);
    }

    private static void dark() {
        Counted x = told("hc019;ht018;hc017;w299;hc016;w340;hs005;");
        due("16: dark(0)", x.dark(0), 20);
        due("16: dark(1)", x.dark(1), 10);
        due("16: dark(2) not in sixty nights", x.dark(2), -9);
        due("16: dark(3) just in sixty", x.dark(3), 60);
        due("16: dark(4) now", x.dark(4), 0);
        x.gives(3, 1);
        due("16: dark(3) not in sixty", x.dark(3), -9);
    }

    private static void first() {
        Counted x = told("hc019;ht018;ht017;hs005;");
        due("17: first(0), the sleeper does not hang now", x.first(0), 1);
        due("17: first(1)", x.first(1), 1);
        Counted y = told("hc019;w099;");
        due("17: nobody in sixty nights", y.first(0), -9);
        due("17: whole now", y.first(1), 0);
        Counted z = told("hc019;w040;");
        due("17: in the sixtieth", z.first(0), 0);
        due("17: not behind sixty", told("hc019;w041;").first(0), -9);
        due("17: never whole", told("hm019;hs019;hl018;").first(1), -9);
        due("17: without houses", new Counted().first(1), 0);
        due("17: without houses", new Counted().first(0), -9);
    }

    // ---- 18 .. 20 ----

    private static void sees() {
        Counted x = told("hc000;c102;hc010;hl010;hc019;hm700;");
        // Over the hill of 2 at 10 only the mirror (eye 6) looks down to 19 (line at 10: 6 - 5 * 10 / 19 > 2).
        due("18: the cottage at 0: not over the hill", x.sees(0), 1 << 1 | 1 << 2 | 1 << 4);
        due("18: on the hill: all and the sea", x.sees(1), 1 | 1 << 2 | 1 << 3 | 1 << 4 | 128);
        due("18: in one cell, unlit, too", x.sees(2), 1 | 1 << 1 | 1 << 3 | 1 << 4 | 128);
        due("18: the mirror", x.sees(4), 1 | 1 << 1 | 1 << 2 | 1 << 3 | 128);
        due("18: at the sea", x.sees(3), 1 << 1 | 1 << 2 | 1 << 4 | 128);
        x.fog(9);
        due("18: in one cell in the thickest fog", x.sees(2), 1 << 1);
        due("18: two cells off the sea", x.sees(3), 128);
        x.moves(3, 18);
        due("18: still", x.sees(3), 128);
        x.moves(3, 17);
        due("18: three are too far", x.sees(3), 0);
        // The line from eye 2 at 0 to eye 0 at 20 is at 1 over cell 10: as high is not lower.
        Counted y = told("ht200;c101;");
        due("18: as high as the line is in the way", y.sees(0), 0);
        y.heaps(10, 0);
        y.heaps(9, 1);
        due("18: lower than the line is not", y.sees(0), 128);
        due("18: an eye of 0 sees over nothing", told("hl018;").sees(0), 0);
        due("18: nothing is between 19 and the sea", told("hl019;").sees(0), 128);
        due("18: seven houses and the sea", told("hc019;".repeat(7)).sees(6), 0x3f | 128);
        due("18: 20 cells are not too far", told("hc000;").sees(0), 128);
        // From 6 at cell 3 to 2 at cell 11 the line is at 4 over cell 7.
        Counted z = told("ht803;c031;c111;hc011;c073;c194;");
        due("18: from hill to hill", z.sees(0), 2);
        due("18: and back", z.sees(1), 1);
        z.heaps(7, 4);
        due("18: not if the hill between is as high", z.sees(0) + z.sees(1), 0);
    }

    private static void hill() {
        Counted x = told("hc000;hc010;c033;c063;c091;hc001;hc000;");
        due("19: of several the least", x.hill(0, 1), 3);
        due("19: the other way", x.hill(1, 0), 3);
        due("19: none is between", x.hill(0, 2), -9);
        due("19: in one cell", x.hill(0, 3), -9);
        x.heaps(10, 9);
        // Line from 1 at 0 to 10 at 10 is at 1 more each cell: 3 - 3.7 against 3 - 6.4.
        x.heaps(0, 0);
        due("19: the line climbs", x.hill(0, 1), 3);
        x.heaps(3, 0);
        // 0 - 1.9 at cell 1, 3 - 6.4 at cell 6.
        due("19: least below it", x.hill(1, 0), 1);
        x.fog(9);
        due("19: fog takes no hill away", x.hill(0, 1), 1);
    }

    private static void leastEye() {
        Counted x = told("c189;hc017;");
        // Over 9 at 18 from 17: eye * 2 / 3 > 9.
        due("20: leastEye(0)", x.leastEye(0), 14);
        x.heaps(17, 6);
        due("20: the ground helps", x.leastEye(0), 8);
        x.heaps(17, 0);
        x.moves(0, 0);
        due("20: 9 at 18 from 0 needs 91", x.leastEye(0), -9);
        // From 16 over 9 at 18: eye * 2 / 4 > 9.
        x.moves(0, 16);
        due("20: 19", x.leastEye(0), 19);
        // From 14: eye * 2 / 6 > 9; with ground 0 that is 28; from 13: eye * 2 / 7 > 9 is 32.
        x.moves(0, 14);
        due("20: 28", x.leastEye(0), 28);
        x.moves(0, 13);
        due("20: 32 is too high", x.leastEye(0), -9);
        x.heaps(13, 2);
        due("20: 30 is not", x.leastEye(0), 30);
        x.heaps(13, 1);
        due("20: 31 is too high", x.leastEye(0), -9);
        x.moves(0, 19);
        due("20: nothing between", x.leastEye(0), 0);
        x.moves(0, 17);
        x.heaps(18, 0);
        due("20: over flat land", x.leastEye(0), 1);
        x.fog(9);
        due("20: no eye sees through fog", x.leastEye(0), -9);
    }

    // ---- 21 .. 24 ----

    private static void cut() {
        Counted x = told("f7;hc002;hc008;hc014;hc019;hs000;");
        due("21: of 0 - 1 - 2 - sea, and 3, 2 cuts most", x.cut(0), 2);
        due("21: 3 alone sees the sea, and 2 is seen from it", x.cut(1), 1);
        due("21: needed", x.cut(2), 1 << 1 | 1 << 2);
        x.moves(3, 14);
        due("21: two at 14: none cuts more than another but 1", x.cut(0), 1);
        due("21: 2 and 3 are left", x.cut(1), 2);
        due("21: only 1 is needed", x.cut(2), 1 << 1);
        due("21: the first may be needed", told("f7;hc014;hc008;").cut(2), 1);
        Counted y = told("hs000;");
        due("21: nobody is lit", y.cut(0), -9);
        due("21: nobody is lit", y.cut(1), -9);
        due("21: nobody is needed", y.cut(2), 0);
        Counted z = told("c199;hc000;hc000;hc019;");
        due("21: of several the least among those that cut alike", told("hc000;hc001;").cut(0), 0);
        due("21: who is behind the hill sees its top", z.cut(0), 2);
        due("21: nobody then", z.cut(1), 0);
    }

    private static void build() {
        Counted x = told("f7;hc002;hc008;");
        // 8 sees 14, 14 the sea: only there all three hang.
        due("22: the gap", x.build(0), 14);
        due("22: all hang", x.build(1), 3);
        Counted full = told("f7;hc002;hc008;hc008;hc008;hc008;hc008;hc008;");
        due("22: room or not", full.build(0), 14);
        due("22: eight hang", full.build(1), 8);
        due("22: nothing was built", full.count(0), 7);
        Counted empty = new Counted();
        due("22: an empty land", empty.build(0), 0);
        due("22: an empty land", empty.build(1), 1);
        empty.heaps(10, 1);
        due("22: on the hill or behind it", empty.build(0), 10);
    }

    private static void fell() {
        Counted x = told("c051;c153;hc000;hc010;");
        // 15 hides the sea from both; without it 10 hangs, but 5 still hides 10 and the sea from 0.
        due("23: the hill towards the sea", x.fell(), 15);
        due("23: nothing was felled", x.height(15), 3);
        x.heaps(15, 0);
        due("23: then the other", x.fell(), 5);
        x.heaps(5, 0);
        due("23: nobody more can hang", x.fell(), -9);
        // Two hills, each of which hides the sea by itself.
        Counted y = told("c159;c169;hc000;");
        due("23: one alone helps nothing", y.fell(), -9);
        due("23: without houses", new Counted().fell(), -9);
        // The eyes are at 5 on their own ground: from 10 the line at 12 is 4 down to the sea.
        Counted z = told("c104;c114;c123;hc010;hc011;hc019;");
        due("23: all hang now", z.count(4), 7);
        due("23: so none is felled", z.fell(), -9);
        due("23: two at once", told("c142;hc010;hc009;").fell(), 14);
        // 17 is shut in by 16 towards the mirror and by 18 towards the sea.
        due("23: of several the least", told("c163;c182;hm914;hc017;").fell(), 16);
    }

    private static void raise() {
        Counted x = told("c151;hc000;hc010;");
        // From 10 (eye 1) the line at 15 is 0.5; with 4 it is 2. From 0 with 4: exactly 1, not higher.
        due("24: the nearer one", x.raise(), 1);
        due("24: nothing was raised", x.house(1, 6), 1);
        x.moves(0, 1);
        // From 1 with 4 the line at 15 is 4 * 5 / 19 > 1; then 10 sees 1 as well.
        due("24: of several the least", x.raise(), 0);
        x.heaps(15, 0);
        due("24: all hang as it is", x.raise(), -9);
        Counted y = told("c159;hc000;");
        due("24: 3 are too few", y.raise(), -9);
        Counted z = told("c152;hs010;hc010;");
        due("24: raising one who sleeps helps nobody", z.raise(), -9);
        z.heaps(15, 1);
        due("24: the lit one", z.raise(), 1);
        // The eyes 1 and 1 would need 4 and 4 to see one another over 3 at 10.
        due("24: one alone is raised", told("c103;hc005;hc015;").raise(), -9);
        due("24: without houses", new Counted().raise(), -9);
    }

    // ---- 25 .. 27 ----

    private static void call() {
        Counted x = told("hs019;hc019;hs918;u1;");
        due("25: the two who sleep in night 0", x.call(0), 1 << 0 | 1 << 2);
        due("25: who is called stays so", x.house(1, 4), 1);
        // Night 1: neither sleeps.
        x.nights(1);
        due("25: nobody need be called in night 1", x.call(0), 0);
        due("25: night 2: the first sleeps", x.call(1), 1);
        due("25: without houses", new Counted().call(12), 0);
        // Two who sleep alike behind each other: each hangs for itself.
        Counted y = told("f9;hs010;hs018;");
        due("25: who can't hang is not called", y.call(0), 2);
        // One wick: sitting up in night 0 or 1 is as good.
        Counted z = told("hs019;u0;n20;w001;u0;");
        due("25: a wick burns once only, now or later", z.call(1), 0);
        due("25: now it must be now", z.call(0), 1);
        // Three with a wick each: the cottage hangs in night 20 only, by either of two who sleep in it.
        Counted w = told("n01;f7;hs014;hs014;hc008;u0;u1;n19;u0;u1;");
        due("25: of several the least", w.call(1), 1);
    }

    private static void news() {
        Counted x = told("f7;hc002;hc008;hc014;hc007;hs019;");
        due("26: three houses", x.news(0, 0), 3);
        due("26: first to 1", x.news(0, 1), 1);
        due("26: two", x.news(1, 0), 2);
        due("26: next 2", x.news(1, 1), 2);
        due("26: one", x.news(2, 0), 1);
        due("26: next the sea", x.news(2, 1), 7);
        due("26: 3 by 1 and 2", x.news(3, 0), 3);
        due("26: 3's next is nearer to the sea", x.news(3, 1), 1);
        due("26: who does not hang", x.news(4, 0), -9);
        due("26: who does not hang", x.news(4, 1), -9);
        x.moves(3, 8);
        due("26: of two ways the least next", x.news(0, 1), 1);
        x.moves(1, 0);
        due("26: by the other", x.news(0, 1), 3);
        Counted y = told("f7;hc014;hc008;hc002;");
        due("26: as many as there are", y.news(2, 0), 3);
        due("26: next 0", y.news(1, 1), 0);
    }

    private static void farthest() {
        Counted x = told("f7;hc014;hc002;hc008;hc003;");
        due("27: of two three houses off the least", x.farthest(), 1);
        x.moves(1, 14);
        due("27: the other", x.farthest(), 3);
        x.moves(2, 0);
        due("27: the chain is broken", x.farthest(), 0);
        due("27: nobody hangs", told("hs000;").farthest(), -9);
        due("27: nobody is there", new Counted().farthest(), -9);
    }

    // ---- 28 .. 33 ----

    private static void spend() {
        Counted x = told("hc001;ht002;hs003;w001;");
        due("28: spend(0)", x.spend(0), 0);
        due("28: spend(1), the sleeper sleeps", x.spend(1), 3);
        due("28: spend(2)", x.spend(2), 7);
        due("28: spend(10)", x.spend(10), 10 + 20 + 5);
        due("28: spend(60)", x.spend(60), 21 + 20 + 20);
        due("28: nothing is spent", x.count(5), 61);
    }

    private static void share() {
        Counted x = told("hc019;hc018;w105;");
        due("29: nobody is short in 20 nights", x.share(19), -9);
        due("29: in night 20 the first is", x.share(20), 0);
        due("29: of several the least", x.share(30), 0);
        due("29: nothing is given", x.house(0, 3), 20);
        // A tower burns two: one more wick is no night more, but with an odd one.
        Counted y = told("ht019;hc018;w150;");
        due("29: a wick is too few for a tower", y.share(15), -9);
        y.gives(0, 1);
        due("29: it makes up two", y.share(15), 0);
        // The one at the sea carries two more.
        Counted z = told("f7;hc008;w050;hc014;hc002;w250;");
        due("29: who carries most", z.share(25), 1);
    }

    private static void longest() {
        Counted x = told("hs019;hs019;hc019;");
        due("30: longest(0)", x.longest(0), 1);
        due("30: longest(1)", x.longest(1), 3);
        due("30: longest(60)", x.longest(60), 3);
        x.nights(60);
        due("30: all is burnt out", x.longest(60), 0);
        due("30: at most in the first", told("hm019;hm019;").longest(1), 2);
    }

    private static void fogged() {
        Counted x = told("hc010;f9;");
        due("31: ten cells: fog 5 lets them be seen, 6 not", x.fogged(), 6);
        due("31: fog stays", x.count(2), 9);
        x.moves(0, 18);
        due("31: two cells are seen in any fog", x.fogged(), -9);
        x.moves(0, 17);
        due("31: three not", x.fogged(), 9);
        due("31: nobody", new Counted().fogged(), 0);
        due("31: asleep", told("hs019;").fogged(), 0);
    }

    private static void highest() {
        Counted x = new Counted();
        due("32: all alike", x.highest(), 0);
        x.heaps(1, 1);
        due("32: the second", x.highest(), 1);
        x.heaps(1, 0);
        x.heaps(19, 1);
        due("32: the last", x.highest(), 19);
        x.heaps(7, 5);
        x.heaps(12, 5);
        due("32: of several the least", x.highest(), 7);
    }

    private static void two() {
        // Old, figure 0, from night 0: awake in 1 and 5 alone: 4 by sleeping, 12 - 6 by sitting up.
        Counted x = told("ho019;hc019;ho018;hs018;");
        due("33: the old one sits up", x.two(0, 1), 10);
        due("33: told the other way", x.two(1, 0), 1);
        due("33: two old ones", x.two(0, 2), 11);
        // Sleeper, figure 0: awake in 1, 3, 5: 6 either way, so that not is first.
        due("33: as much is not more", x.two(1, 3), 0);
        due("33: for the first neither", x.two(3, 1), 0);
        due("33: who is called stays so", x.house(0, 4), 0);
        // The old one is seen by the sleeper alone: 4 by sleeping, 0 by sitting up alone, 6 only if both did.
        Counted w = told("f7;ho008;hs014;");
        due("33: each alone, not both together", w.two(0, 1), 0);
        due("33: told the other way", w.two(1, 0), 0);
        x.calls(0);
        due("33: whether called now is nothing to it", x.two(0, 1), 10);
        // Wicks for one night in the first, for four in the second: from night 60 they would hang in 61, in
        // 61 and 65. Called, they would hang in 60 (2 - 6), in 60 .. 63 (8 - 6): less than 2, and than 4.
        Counted y = told("ho019;ho019;u0;u1;n60;w002;w108;u0;u1;");
        due("33: sitting up costs the nights, too, in which it does not hang", y.two(0, 1), 0);
        // With ten wicks it hangs in five nights called: 10 - 6 is as much as 4 for 61 and 65.
        y.gives(1, 2);
        due("33: as much is not more", y.two(0, 1), 0);
        y.gives(1, 2);
        due("33: six nights are", y.two(0, 1), 1);
    }

    // ---- 34, 35 ----

    private static void fraction(String name, Counted x, int house, int n, int t, long above, long below) {
        due(name + " above", x.mist(house, n, t, 0), above);
        due(name + " below", x.mist(house, n, t, 1), below);
    }

    private static void mist() {
        Counted x = told("hc010;hc018;hs010;");
        fraction("34: none of n nights", x, 0, 0, 2, 1, 1);
        fraction("34: none of n nights, asleep", x, 2, 0, 20, 1, 1);
        fraction("34: one night", x, 0, 1, 3, 2, 3);
        fraction("34: seven nights", x, 0, 7, 20, 893871739L, 1280000000L);
        fraction("34: no fog is too thick for 18", x, 1, 7, 20, 1, 1);
        fraction("34: asleep", x, 2, 1, 2, 0, 1);
        fraction("34: asleep in the third", x, 2, 3, 2, 0, 1);
        Counted y = told("ho010;n01;");
        fraction("34: night 1 alone", y, 0, 1, 4, 3, 4);
        fraction("34: nights 1 and 2, asleep", y, 0, 2, 4, 0, 1);
        Counted z = told("f9;hc010;");
        fraction("34: fog as it is", z, 0, 1, 4, 0, 1);
        Counted w = told("hc019;u0;n17;");
        fraction("34: three wicks, three nights", w, 0, 3, 2, 1, 1);
        fraction("34: not four", w, 0, 4, 2, 0, 1);
        // 17 hangs by 18 in thick fog, if that is lit.
        Counted v = told("hc017;hc018;f0;");
        fraction("34: on the sea by another", v, 0, 7, 2, 1, 1);
    }

    private static void mean() {
        Counted x = new Counted();
        due("35: 0 above", x.mean(0), 0);
        due("35: by 1", x.mean(1), 1);
        x.heaps(0, 7);
        due("35: 7", x.mean(0), 7);
        due("35: by 20", x.mean(1), 20);
        x.heaps(19, 8);
        due("35: 15 by 20 above", x.mean(0), 3);
        due("35: 15 by 20 below", x.mean(1), 4);
        for (int cell = 0; cell < 20; cell++) {
            x.heaps(cell, 9);
        }
        due("35: all 9 above", x.mean(0), 9);
        due("35: all 9 below", x.mean(1), 1);
    }

    // ---- 36 .. 40 ----

    private static void whoSlept() {
        Counted x = told("f7;hc002;hc008;hc014;hm019;");
        due("36: nothing told: anybody", x.whoSlept(), 15);
        // Without 0: 3, 2; without 1: 2, 1; without 2: 1, 0; without 3: 3, 3.
        rows(x, 3);
        due("36: three", x.whoSlept(), 1 | 8);
        rows(x, 2);
        due("36: then two: the mirror sleeps in night 1", x.whoSlept(), 1);
        due("36: the row stays", x.count(6), 2);
        rows(x, 3, 3);
        due("36: never then", x.whoSlept(), 0);
        x.clear();
        rows(x, 1, 0);
        due("36: without 2", x.whoSlept(), 4);
        due("36: wicks are not taken", x.house(2, 3), 20);
        due("36: without houses", new Counted().whoSlept(), 0);
        Counted y = told("hc019;hc019;n15;");
        rows(y, 1, 1, 1, 1, 1, 0);
        due("36: until the other's wicks are burnt", y.whoSlept(), 3);
    }

    private static void whatIs() {
        Counted x = told("ho119;");
        due("37: nothing told: any kind", x.whatIs(0, 0), 63);
        due("37: nothing told: any figure", x.whatIs(0, 1), 1023);
        rows(x, 1);
        due("37: lit in night 0: c, t, m", x.whatIs(0, 0), 1 | 2 | 16);
        due("37: an old one sleeps in it", x.whatIs(0, 1), 0);
        rows(x, 0);
        due("37: not in night 1: m", x.whatIs(0, 0), 16);
        due("37: the row stays", x.count(6), 2);
        x.clear();
        rows(x, 0, 1, 0);
        // Old: asleep in 2 with figure 0 alone; sleeper, low: figure 1 sleeps in 0 and 3.
        due("37: figure 0", x.whatIs(0, 1), 1);
        due("37: none with figure 1", x.whatIs(0, 0), 0);
        rows(x, 0);
        due("37: 3 divides 3", x.whatIs(0, 1), 1);
        x.turn(0, 2, 0);
        due("37: with figure 0: s sleeps in 0, 2, not in 3; o in 3, too", x.whatIs(0, 0), 32);
        due("37: kind and figure stay", x.house(0, 0) * 10 + x.house(0, 1), 20);
        // How high the candle is counts: over 2 at 15 from 10 an eye of 5 sees, 4 does not.
        Counted y = told("c152;ht010;");
        rows(y, 1);
        due("37: towers of 8 and 9", y.whatIs(0, 1), 1 << 8 | 1 << 9);
        y.turn(0, 1, 5);
        due("37: as a mirror of 5", y.whatIs(0, 0), 16);
    }

    private static void row() {
        Counted x = new Counted();
        for (int i = 1; i <= 16; i++) {
            due("38: row the " + i + "th", x.row(i % 2 == 0 ? 0 : 99), i);
        }
        due("38: count(6)", x.count(6), 16);
    }

    private static void judge() {
        Counted x = told("c003;c012;c155;");
        due("39: an empty row", x.judge(), -9);
        rows(x, 3, 2, 0);
        due("39: all is so", x.judge(), -9);
        due("39: the row has none then", x.count(6), 0);
        rows(x, 3, 1, 1);
        due("39: the first that is not so", x.judge(), 1);
        due("39: none then either", x.count(6), 0);
        rows(x, 3, 2, 0, 0, 0, 0, 0, 0, 0, 0, 0, 0, 0, 0, 0, 5);
        due("39: a full row", x.judge(), -9);
        rows(x, 3, 2, 0, 0, 0, 0, 0, 0, 0, 0, 0, 0, 0, 0, 0, 4);
        due("39: its last", x.judge(), 15);
        rows(x, 99);
        due("39: its first", x.judge(), 0);
    }

    private static void clear() {
        Counted x = new Counted();
        due("40: an empty row", x.clear(), 0);
        rows(x, 1, 2, 3);
        due("40: three", x.clear(), 3);
        due("40: none then", x.count(6), 0);
        due("40: one is the first", x.row(4), 1);
    }

    // ---- 41 .. 44 ----

    private static void lots() {
        // z 3: 1018897798, -1929822419, then cell 10 and 3 wicks; without sign and by 256, cut:
        // 3980069, 850239: cell 9 and 4 wicks.
        Counted x = told("hs900;hc000;");
        due("41: the sleeper sleeps in night 0 and has one left", x.lots(1, 3, 1), 1);
        due("41: it hangs, the cottage is burnt out", x.lots(1, 3, 0), 1);
        due("41: nothing changed", x.house(0, 2) * 100 + x.house(0, 3), 20);
        x.heaps(10, 1);
        due("41: cell 9 is behind a hill", x.lots(1, 3, 0), 0);
        x.nights(1);
        due("41: from night 1 it burns all four", x.lots(1, 3, 1), 0);
        due("41: night stays", x.count(1), 1);
        lotsByHand();
        due("41: without houses", new Counted().lots(20, -5, 0), 0);
    }

    // The draws again, here by longs, and each land built and lived through by calls.
    private static void lotsByHand() {
        String told = "f5;c174;hs900;hm100;hl019;ho300;";
        String burntOut = told + "u0;u1;u2;u3;n59;u0;u1;u2;u3;";
        Counted later = told(told + "n59;");
        int hangOfAll = 0;
        for (int seed : new int[] {0, 1, -1, 12345, MIN, MAX}) {
            long z = seed;
            int hang = 0;
            int wicks = 0;
            for (int lands = 1; lands <= 20; lands++) {
                Counted one = told(burntOut);
                for (int h = 0; h < 4; h++) {
                    z = (int) (z * 1664525L + 1013904223L);
                    one.moves(h, (int) ((z & 0x7fffffffL) / 256 % 20));
                    z = (int) (z * 1664525L + 1013904223L);
                    one.gives(h, (int) ((z & 0x7fffffffL) / 256 % 5));
                }
                one.nights(4);
                hang += Integer.bitCount(one.count(4));
                wicks += one.count(5);
                due("41: lots(" + lands + ", " + seed + ", 0)", later.lots(lands, seed, 0), hang);
                due("41: lots(" + lands + ", " + seed + ", 1)", later.lots(lands, seed, 1), wicks);
            }
            hangOfAll += hang;
        }
        due("41: somebody hangs in some of them", hangOfAll > 0 ? 1 : 0, 1);
    }

    private static void image() {
        Counted x = told("n07;");
        due("42: image()", x.image(), 7);
        x.nights(2);
        due("42: image() again", x.image(), 9);
        due("42: the later one counts", x.on(), 9);
        Counted y = new Counted();
        due("42: of a new object", y.image(), 0);
    }

    private static void on() {
        Counted x = told("c053;hs110;hc019;u0;f1;n03;");
        due("43: there is none", x.on(), -3);
        rows(x, 1);
        letters(x, "ab");
        x.image();
        String then = state(x);
        due("43: much changes", x.heaps(5, 9) + x.heaps(6, 1) + x.moves(0, 0) + x.gives(1, 9), 3 + 10 + 17 + 9);
        x.calls(0);
        x.calls(1);
        x.fog(8);
        x.turn(0, 5, 9);
        x.nights(20);
        due("43: on()", x.on(), 3);
        same("43: all is as then", state(x), then);
        x.clear();
        due("43: a house more", tellOver(x, "hc000;n01;"), 2);
        rows(x, 4, 5, 6);
        letters(x, "xyz");
        x.house(9, 9);
        due("43: on() again", x.on(), 3);
        due("43: the row is not of the image", x.count(6), 3);
        due("43: letters are not", x.count(7), 3);
        due("43: refusals are not", x.count(11) + x.count(13), 2);
        due("43: houses are", x.count(0), 2);
        x.clear();
        x.land();
        rows(x, 1);
        letters(x, "ab");
        same("43: all is as then", state(x), then);
    }

    private static int tellOver(Counted x, String text) {
        x.land();
        return tell(x, text);
    }

    private static void count() {
        Counted x = told("f2;hc019;hs010;ht000;n02;");
        rows(x, 1, 2);
        letters(x, "abc");
        // The tower at 2 is 17 and more cells from all that is lit.
        int[] want = {3, 2, 2, 1 | 4, 1, 18 + 19 + 16, 2, 3};
        x.moves(2, 2);
        for (int what = 0; what < 8; what++) {
            due("44: count(" + what + ")", x.count(what), want[what]);
        }
        for (int what : new int[] {MIN, -1, 8, 9, 10, 17, 18, MAX}) {
            due("44: count(" + what + ")", x.count(what), -9);
        }
        x.height(20);
        x.height(20);
        x.first(5);
        x.on();
        x.fog(-1);
        x.fog(10);
        x.mist(0, 0, 2, 5);
        x.mist(9, 0, 2, 5);
        same("44: refusals", Arrays.toString(refusals(x)), "[3, 2, 1, 1, 0, 1]");
    }

    // ---- what is asked in mind leaves all as it was ----

    private static void questionsChangeNothing() {
        Counted x = told("f3;c093;c142;hc002;hs008;ho014;hm919;hl218;u1;n05;");
        rows(x, 2, 1);
        letters(x, "c0");
        String before = state(x);
        long[] counts = refusals(x);
        x.litThen(9);
        x.hangThen(9);
        x.fell();
        x.raise();
        x.call(12);
        x.farthest();
        x.spend(60);
        x.share(30);
        x.longest(60);
        x.fogged();
        x.highest();
        x.mean(0);
        x.whoSlept();
        x.lots(20, 99, 0);
        x.image();
        for (int what = 0; what < 2; what++) {
            x.first(what);
            x.cut(what + 1);
            x.build(what);
        }
        for (int h = 0; h < 5; h++) {
            x.wicksThen(h, 60);
            x.dark(h);
            x.sees(h);
            x.hill(h, (h + 1) % 5);
            x.leastEye(h);
            x.news(h, 1);
            x.two(h, (h + 2) % 5);
            x.mist(h, 7, 20, 0);
            x.whatIs(h, 0);
            x.whatIs(h, 1);
        }
        same("questions change nothing", state(x), before);
        same("questions are not refused", Arrays.toString(refusals(x)), Arrays.toString(counts));
    }
}
