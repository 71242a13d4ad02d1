import java.lang.reflect.Method;
import java.util.ArrayList;
import java.util.Arrays;
import java.util.Comparator;
import java.util.List;
import java.util.Random;

/** Random runs of at most 512 calls on the class and on the model: each answer must be the same. */
public final class ModelTests {
    private static final int RUNS = 400;
    private static final int CALLS = 512;
    private static final List<String> UNSETTLING = List.of("letter", "land", "nights", "heaps", "clear", "judge", "on");
    private static final int[] EXTREMES = {Integer.MIN_VALUE, -1000, -1, 100, 256, 1000, Integer.MAX_VALUE};

    public static void main(String[] args) throws Exception {
        List<Method> face = new ArrayList<>();
        for (Method m : EachSeesTheNext.class.getDeclaredMethods()) {
            if (java.lang.reflect.Modifier.isPublic(m.getModifiers())) {
                face.add(m);
            }
        }
        face.sort(Comparator.comparing(Method::getName));
        if (face.size() != 43) {
            System.out.println("the face has " + face.size() + " methods, due are 43");
            System.exit(1);
        }
        int wrong = 0;
        for (int run = 0; run < RUNS && wrong < 5; run++) {
            wrong += run(run, face);
        }
        System.out.println(wrong == 0 ? "ModelTests: all answers alike" : "ModelTests: " + wrong + " runs differ");
        if (wrong != 0) {
            System.exit(1);
        }
    }

    private static int run(int seed, List<Method> face) throws Exception {
        Random random = new Random(seed);
        EachSeesTheNext real = new EachSeesTheNext();
        Model model = new Model();
        String pending = seed % 8 == 0 ? "" : firstLand(random);
        for (int call = 0; call < CALLS; call++) {
            Method m;
            Object[] args;
            if (pending.isEmpty() && random.nextInt(50) == 0) {
                pending = text(random);
            }
            if (!pending.isEmpty()) {
                boolean end = pending.charAt(0) == '!';
                m = named(face, end ? "land" : "letter");
                args = end ? new Object[0] : new Object[] {(int) pending.charAt(0)};
                pending = pending.substring(1);
            } else {
                m = face.get(random.nextInt(face.size()));
                if (UNSETTLING.contains(m.getName()) && random.nextInt(3) != 0) {
                    continue;
                }
                args = arguments(random, m, model);
            }
            Object got = m.invoke(real, args);
            Object due = Model.class.getMethod(m.getName(), m.getParameterTypes()).invoke(model, args);
            if (!got.equals(due)) {
                System.out.println("run " + seed + ", call " + call + ": " + m.getName() + Arrays.toString(args)
                    + " answered " + got + ", the model " + due);
                return 1;
            }
        }
        return 0;
    }

    private static Method named(List<Method> face, String name) {
        for (Method m : face) {
            if (m.getName().equals(name)) {
                return m;
            }
        }
        throw new IllegalStateException(name);
    }

    // The model is asked what would fit, so that the class is called no oftener than 512 times.
    private static Object[] arguments(Random random, Method m, Model x) {
        Object[] args = new Object[m.getParameterCount()];
        for (int i = 0; i < args.length; i++) {
            args[i] = argument(random, m.getName(), i, x);
        }
        return args;
    }

    private static int argument(Random random, String name, int i, Model x) {
        if (random.nextInt(40) == 0) {
            return EXTREMES[random.nextInt(EXTREMES.length)];
        }
        switch (name + i) {
            case "row0":
                // A number that stands or hangs there keeps long rows from being hopeless.
                return random.nextInt(4) == 0 ? x.height(x.count(6))
                    : Integer.bitCount(x.hangThen(x.count(6))) - (random.nextInt(6) == 0 ? 1 : 0);
            case "letter0": return random.nextInt(256);
            case "heaps0": case "height0": case "moves1": return random.nextInt(21) - random.nextInt(2);
            case "heaps1": return random.nextInt(random.nextInt(3) != 0 ? 2 : 11);
            case "fog0": return random.nextInt(3) == 0 ? random.nextInt(11) : random.nextInt(3);
            case "gives1": return random.nextInt(8);
            case "nights0": return random.nextInt(20) == 0 ? random.nextInt(62) : random.nextInt(4);
            case "turn1": case "count0": return random.nextInt(name.equals("turn") ? 7 : 19);
            case "turn2": return random.nextInt(11);
            case "litThen0": case "hangThen0": case "wicksThen1": case "spend0": case "longest0":
                return random.nextInt(62);
            case "share0": return random.nextInt(32);
            case "call0": return random.nextInt(14);
            case "mist1": return random.nextInt(9);
            case "mist2": return 1 + random.nextInt(21);
            case "lots0": return random.nextInt(22);
            case "lots1": return random.nextInt();
            case "house1": return random.nextInt(9);
            case "lots2": case "mist3": case "mean0": case "build0": case "news1": case "whatIs1": case "first0":
                return random.nextInt(10) == 0 ? 2 : random.nextInt(2);
            case "cut0": return random.nextInt(4);
            default: return random.nextInt(random.nextInt(10) == 0 ? 9 : Math.max(1, x.count(0)));
        }
    }

    /** Hills and houses, so that most runs have somebody to ask about from the start. */
    private static String firstLand(Random random) {
        StringBuilder text = new StringBuilder();
        int hills = random.nextInt(6);
        for (int i = 0; i < hills; i++) {
            text.append("c" + String.format("%02d", random.nextInt(20)) + random.nextInt(random.nextBoolean() ? 3 : 10) + ";");
        }
        int houses = 2 + random.nextInt(6);
        for (int i = 0; i < houses; i++) {
            text.append("h" + "ctslmo".charAt(random.nextInt(6)) + random.nextInt(10)
                + String.format("%02d", random.nextInt(20)) + ";");
        }
        return text + "f" + random.nextInt(8) + ";!";
    }

    /** A text of statements, whole or with a fault, and "!" where it becomes a land. */
    private static String text(Random random) {
        StringBuilder text = new StringBuilder();
        int statements = random.nextInt(6);
        for (int i = 0; i < statements; i++) {
            String cell = String.format("%02d", random.nextInt(random.nextInt(20) == 0 ? 30 : 20));
            int digit = random.nextInt(random.nextInt(3) == 0 ? 10 : 3);
            switch (random.nextInt(8)) {
                case 0: text.append("c" + cell + digit + ";"); break;
                case 1: case 2: text.append("h" + "ctslmo".charAt(random.nextInt(6)) + digit + cell + ";"); break;
                case 3: text.append("m" + digit + cell + ";"); break;
                case 4: text.append("w" + digit + String.format("%02d", random.nextInt(10)) + ";"); break;
                case 5: text.append("u" + digit + ";"); break;
                case 6: text.append("f" + random.nextInt(random.nextInt(4) == 0 ? 10 : 2) + ";"); break;
                default: text.append("n" + String.format("%02d", random.nextInt(random.nextInt(9) == 0 ? 70 : 4)) + ";");
            }
        }
        if (random.nextInt(6) == 0 && text.length() > 0) {
            text.setCharAt(random.nextInt(text.length()), "chmwufn;0ctslmo9x".charAt(random.nextInt(17)));
        }
        if (random.nextInt(8) == 0 && text.length() > 0) {
            text.setLength(random.nextInt(text.length()));
        }
        return text + "!";
    }
}
