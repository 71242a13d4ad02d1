/** Lands told in letters, each in an object of its own. */
final class Told {
    static final String KINDS = "ctslmo";

    private Told() {
    }

    /** Tells the letters, which must all be taken, and answers what land() answers. */
    static int tell(Counted x, String text) {
        for (int i = 0; i < text.length(); i++) {
            Check.due("letter " + i + " of " + text, x.letter(text.charAt(i)), i + 1);
        }
        return x.land();
    }

    static void more(Counted x, String text) {
        int statements = text.length() - text.replace(";", "").length();
        Check.due("land of " + text, tell(x, text), statements);
    }

    static Counted land(String text) {
        Counted x = new Counted();
        more(x, text);
        return x;
    }

    /** A land told in that NIGHT, so that its HOUSES have their first 20 WICKS in it. */
    static Counted in(int night, String text) {
        Counted x = new Counted();
        for (int left = night; left > 0; left -= 60) {
            x.nights(Math.min(60, left));
        }
        Check.due("NIGHT", x.count(1), night);
        more(x, text);
        return x;
    }

    static void row(Counted x, int... numbers) {
        for (int v : numbers) {
            x.row(v);
        }
    }

    static String two(int number) {
        return "" + number / 10 + number % 10;
    }
}
