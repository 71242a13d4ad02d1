/** Nights in mind: from 0 to 60 of them, and past NIGHT 999, which in thought is a NIGHT like any. */
public final class NightTests {
    public static void main(String[] args) {
        zeroIsNow();
        dark();
        first();
        whole();
        litPast999();
        darkPast999();
        callPast999();
        sharePast999();
        twoPast999();
        mistPast999();
        rowPast999();
        lotsPast999();
        nightStays999();
        Check.end("NightTests");
    }

    // "now and n NIGHTS on (0 .. 60; in mind)"
    private static void zeroIsNow() {
        Counted x = Told.land("f5;hs019;hc011;ht210;n07;");
        Check.due("lit 0 on", x.litThen(0), x.count(3));
        Check.due("hanging 0 on", x.hangThen(0), x.count(4));
        Check.due("wicks 0 on", x.wicksThen(2, 0), x.house(2, 3));
        Check.due("spent 0 on", x.spend(0), 0);
        // Sixty on by thought and by going there are alike.
        int lit = x.litThen(60);
        int hang = x.hangThen(60);
        int wicks = x.wicksThen(0, 60);
        int spent = x.spend(60);
        int all = x.count(5);
        Check.due("in mind alone", x.count(1), 7);
        x.nights(60);
        Check.due("lit 60 on", lit, x.count(3));
        Check.due("hanging 60 on", hang, x.count(4));
        Check.due("wicks 60 on", wicks, x.house(0, 3));
        Check.due("spent 60 on", spent, all - x.count(5));
    }

    // "behind how many NIGHTS (0 .. 60) one does not HANG first; -9"
    private static void dark() {
        Check.due("dark: asleep now", Told.land("hs019;").dark(0), 0);
        Check.due("dark: in the next", Told.land("hm019;").dark(0), 1);
        Check.due("dark: 59 wicks", Told.land("hc019;w039;").dark(0), 59);
        Check.due("dark: 60 wicks", Told.land("hc019;w040;").dark(0), 60);
        Check.due("dark: 61 wicks", Told.land("hc019;w041;").dark(0), -9);
        Check.due("dark: 99 wicks", Told.land("hc019;w099;").dark(0), -9);
        Check.due("dark: lit, but not hanging", Told.land("f9;hc000;").dark(0), 0);
        Check.due("dark: with the other", Told.land("c199;hc019;hc000;w199;").dark(1), 20);
        Check.due("dark: who hangs again counts as well", Told.land("hs019;n01;").dark(0), 1);
    }

    // "who is first, of those HANGING now, of several the least; -9"
    private static void first() {
        Check.due("first: of two alike the least", Told.land("hc019;hc019;").first(0), 0);
        Check.due("first: the other has less", Told.land("hc019;hc019;w001;").first(0), 1);
        Check.due("first: who does not hang now is none", Told.land("hs019;hc019;").first(0), 1);
        Check.due("first: of three", Told.land("hs019;hc019;ht019;hc019;").first(0), 2);
        Check.due("first: 60 wicks", Told.land("hc019;w040;").first(0), 0);
        Check.due("first: 61 wicks", Told.land("hc019;w041;").first(0), -9);
        Check.due("first: one in sixty", Told.land("hc019;w041;hc019;w140;").first(0), 1);
        Check.due("first: nobody hangs now", Told.land("hs019;").first(0), -9);
        Check.due("first: nobody hangs, though lit", Told.land("f9;hc000;").first(0), -9);
        Check.due("first: nobody", new Counted().first(0), -9);
        // The second burns out and takes the first with it.
        Check.due("first: two at once", Told.land("c199;hc000;w099;hc019;").first(0), 0);
    }

    // "WHOLE: behind how many NIGHTS (0 .. 60) all HOUSES HANG first; -9"
    private static void whole() {
        Check.due("whole: now", Told.land("hc019;hc000;").first(1), 0);
        Check.due("whole: in the next", Told.land("hs019;hc000;").first(1), 1);
        Check.due("whole: one is out of sight", Told.land("f9;hc019;hc000;").first(1), -9);
        Check.due("whole: by turns", Told.land("hm019;hs019;").first(1), -9);
        Check.due("whole: one is burnt out", Told.land("hc019;n20;hc019;").first(1), -9);
        Check.due("whole: all are", Told.land("hc019;n20;").first(1), -9);
        Check.due("whole: no houses", new Counted().first(1), 0);
        // An even NIGHT that 3, 5 and 7 do not divide: from 9 on that is 16.
        Check.due("whole: seven on", Told.in(9, "hm019;ho319;hs519;").first(1), 7);
        Check.due("whole: one of seven lacks", Told.land("hc019;".repeat(6) + "hs019;").first(1), 1);
    }

    // "(In thought NIGHT may pass 999.)": 11 divides 1001, 1012, 1023 ..; 8 divides 1000, 1008
    private static void litPast999() {
        Counted x = Told.in(999, "hs919;hs618;w099;w199;");
        for (int n = 0; n <= 60; n++) {
            boolean first = n != 2 && n != 13 && n != 24 && n != 35 && n != 46 && n != 57;
            boolean second = n % 8 != 1;
            int due = (first ? 1 : 0) + (second ? 2 : 0);
            Check.due("999: lit " + n + " on", x.litThen(n), due);
            Check.due("999: hanging " + n + " on", x.hangThen(n), due);
        }
        Check.due("999: wicks, 2 on", x.wicksThen(0, 2), 97);
        Check.due("999: wicks, 3 on", x.wicksThen(0, 3), 97);
        Check.due("999: wicks, 60 on", x.wicksThen(0, 60), 99 - 54);
        Check.due("999: wicks, 60 on", x.wicksThen(1, 60), 99 - 52);
        Check.due("999: spent, 2 on", x.spend(2), 3);
        Check.due("999: spent, 3 on", x.spend(3), 4);
        Check.due("999: spent, 60 on", x.spend(60), 54 + 52);
    }

    private static void darkPast999() {
        Counted x = Told.in(999, "hc019;hs919;hs118;");
        // 3 divides 999 and 1002.
        Check.due("999: dark in 1001", x.dark(1), 2);
        Check.due("999: dark now", x.dark(2), 0);
        Check.due("999: burnt out in 1019", x.dark(0), 20);
        Check.due("999: first of those hanging now", x.first(0), 1);
        Check.due("999: whole in 1000", x.first(1), 1);
        Check.due("999: longest, now", x.longest(0), 2);
        Check.due("999: longest, 1000", x.longest(1), 3);
        Check.due("999: longest, sixty on", x.longest(60), 3);
        Check.due("999: burnt out in 1059", Told.in(999, "hc019;w040;").dark(0), 60);
        Check.due("998: an odd one's night", Told.in(998, "hm019;").dark(0), 1);
    }

    private static void callPast999() {
        Counted x = Told.in(999, "hs919;");
        Check.due("999: none need be called for 1000", x.call(1), 0);
        Check.due("999: for 1001", x.call(2), 1);
        Check.due("999: for 1011", x.call(12), 1);
        Counted y = Told.in(999, "hs619;hs119;");
        Check.due("999: the second for 999", y.call(0), 2);
        Check.due("999: both for 1000", y.call(1), 3);
    }

    private static void sharePast999() {
        Counted x = Told.in(980, "hs919;u0;n19;");
        x.calls(0);
        Check.due("999: one wick", x.house(0, 3) * 1000 + x.count(1), 1999);
        Check.due("999: share for now", x.share(0), -9);
        Check.due("999: share for 1000", x.share(1), 0);
        Counted y = Told.in(980, "hs619;u0;n19;");
        y.calls(0);
        Check.due("999: asleep in 1000", y.share(1), -9);
        Check.due("999: share for 1001", y.share(2), 0);
    }

    private static void twoPast999() {
        Counted x = Told.in(994, "ho019;hc019;u0;n05;");
        x.calls(0);
        Check.due("999: ten wicks", x.house(0, 3) * 1000 + x.count(1), 10999);
        // It is awake in 1001 and 1003; called it burns out in five NIGHTS: 4 against 10 less 6.
        Check.due("999: as much is not more", x.two(0, 1), 0);
        x.gives(0, 2);
        Check.due("999: 4 against 12 less 6", x.two(0, 1), 10);
        // Figure 1: 3 divides 999 and 1002; 8 against 6.
        Check.due("999: four of six", Told.in(999, "hs119;ho119;").two(0, 1), 0);
    }

    private static void mistPast999() {
        Counted x = Told.in(999, "hs910;hs617;");
        Check.due("999: mist in 999, 1000 above", x.mist(0, 2, 2, 0), 1);
        Check.due("999: mist in 999, 1000 below", x.mist(0, 2, 2, 1), 4);
        Check.due("999: asleep in 1001 above", x.mist(0, 3, 2, 0), 0);
        Check.due("999: asleep in 1001 below", x.mist(0, 3, 2, 1), 1);
        Check.due("999: mist in 999 below", x.mist(1, 1, 5, 1), 5);
        Check.due("999: asleep in 1000 above", x.mist(1, 2, 5, 0), 0);
    }

    private static void rowPast999() {
        Counted x = Told.in(999, "hs919;hc919;");
        // NIGHTS 999 .. 1014: the SLEEPER of figure 9 sleeps in 1001 and 1012.
        Told.row(x, 1, 1, 0, 1, 1, 1, 1, 1, 1, 1, 1, 1, 1, 0, 1, 1);
        Check.due("999: who slept", x.whoSlept(), 2);
        Counted y = Told.in(999, "hs919;");
        Told.row(y, 1, 1, 0, 1, 1, 1, 1, 1, 1, 1, 1, 1, 1, 0, 1, 1);
        Check.due("999: what it is", y.whatIs(0, 0), 4 | 8);
        Check.due("999: of what figure", y.whatIs(0, 1), 1 << 9);
        Check.due("999: without wicks", y.whoSlept(), 0);
    }

    private static void lotsPast999() {
        // Seed 3 draws four WICKS: asleep in 999 and 1002, awake in 1003.
        Counted x = Told.in(999, "hs119;");
        Check.due("999: lots, hanging", x.lots(1, 3, 0), 1);
        Check.due("999: lots, wicks", x.lots(1, 3, 1), 2);
    }

    private static void nightStays999() {
        Counted x = Told.in(999, "hc019;hs919;");
        Told.row(x, 2, 2, 1);
        x.litThen(60);
        x.hangThen(60);
        x.wicksThen(0, 60);
        x.dark(0);
        x.first(0);
        x.first(1);
        x.call(12);
        x.spend(60);
        x.share(30);
        x.longest(60);
        x.two(0, 1);
        x.mist(0, 7, 20, 0);
        x.whoSlept();
        x.whatIs(0, 0);
        x.lots(20, 1, 0);
        Check.due("999: it stays", x.count(1), 999);
        Check.due("999: wicks stay", x.count(5), 40);
        Check.due("999: no night goes by", x.nights(1), -6);
        Check.due("999: nor by letters", Told.tell(x, "n01;"), -2000);
        Check.due("999: an image", x.image(), 999);
        Check.due("999: and on", x.on(), 999);
    }
}
