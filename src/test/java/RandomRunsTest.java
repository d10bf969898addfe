import java.lang.reflect.InvocationTargetException;
import java.lang.reflect.Method;
import java.lang.reflect.Modifier;
import java.util.ArrayList;
import java.util.Arrays;
import java.util.Comparator;
import java.util.List;
import java.util.Random;

/** Runs of drawn calls, each answered by the class and by the model alike (promises 1 to 41). */
public final class RandomRunsTest {
    private static final Checks checks = new Checks("RandomRunsTest");
    private static final Method[] CALLS = calls();
    private static final Method[] DUE = new Method[CALLS.length];

    private final Random random;
    private final RandomTexts texts;
    private final BlindSpots x = new BlindSpots();
    private final Model model = new Model();
    private final List<String> story = new ArrayList<>();
    private final int profile;
    private int made = 0;
    private boolean broken = false;

    private RandomRunsTest(long seed) {
        random = new Random(seed);
        texts = new RandomTexts(random);
        profile = (int) (seed % 5);
    }

    private static Method[] calls() {
        Method[] all = Arrays.stream(BlindSpots.class.getDeclaredMethods())
                .filter(m -> Modifier.isPublic(m.getModifiers())).toArray(Method[]::new);
        Arrays.sort(all, Comparator.comparing(Method::getName));
        return all;
    }

    public static void main(String[] args) throws Exception {
        int runs = args.length > 0 ? Integer.parseInt(args[0]) : 300;
        long first = args.length > 1 ? Long.parseLong(args[1]) : 0;
        for (int k = 0; k < CALLS.length; k++) {
            DUE[k] = Model.class.getDeclaredMethod(CALLS[k].getName(), CALLS[k].getParameterTypes());
        }
        for (long seed = first; seed < first + runs && checks.wrongSoFar() < 3; seed++) {
            new RandomRunsTest(seed).run();
        }
        faults(runs * 100, first);
        checks.end();
    }

    private static void faults(int many, long seed) {
        RandomTexts texts = new RandomTexts(new Random(seed + 77));
        BlindSpots x = new BlindSpots();
        for (int k = 0; k < many; k++) {
            int sort = k % 2;
            String text = sort == 0 ? texts.land() : texts.law();
            if (k % 3 > 0) {
                text = texts.spoiled(text);
            }
            int due = sort == 0 ? ModelLand.fault(text, null) : ModelLaw.fault(text);
            checks.due("fault(" + sort + ") of \"" + text + "\"", Texts.fault(x, sort, text), due);
        }
    }

    private void run() throws Exception {
        int calls = 60 + random.nextInt(440);
        if (random.nextInt(10) > 0) {
            tellLand();
        }
        if (random.nextInt(2) > 0) {
            tellLaw();
        }
        while (made < calls && !broken) {
            int dice = random.nextInt(150);
            if (dice == 0) {
                tellLand();
            } else if (dice < 3) {
                tellLaw();
            } else if (profile == 1 && dice < 60) {
                call("hours", 60);
            } else {
                drawnCall();
            }
        }
    }

    private void tellLand() throws Exception {
        tell(random.nextInt(10) == 0 ? texts.spoiled(texts.land()) : texts.land(), 0);
    }

    private void tellLaw() throws Exception {
        tell(random.nextInt(10) == 0 ? texts.spoiled(texts.law()) : texts.law(), 1);
        call("law", random.nextInt(5) - 1);
    }

    private void tell(String text, int sort) throws Exception {
        call("end", 0);
        for (int from = 0; from < text.length(); from += 20) {
            int[] w = Texts.words(text, from);
            call("feed", w[0], w[1], w[2], w[3], w[4]);
        }
        call("fault", sort);
        call("text", sort);
        call("end", 0);
    }

    private void drawnCall() throws Exception {
        Method method = CALLS[random.nextInt(CALLS.length)];
        String name = method.getName();
        Class<?>[] types = method.getParameterTypes();
        Object[] args = new Object[types.length];
        for (int k = 0; k < types.length; k++) {
            if (types[k] == boolean.class) {
                args[k] = random.nextBoolean();
            } else if (types[k] == long.class) {
                args[k] = random.nextInt(3) == 0 ? random.nextLong() : (long) random.nextInt(100);
            } else {
                args[k] = number(name, k);
            }
        }
        call(name, args);
    }

    private int number(String name, int k) {
        if (random.nextInt(40) == 0) {
            int[] odd = {Integer.MIN_VALUE, Integer.MAX_VALUE, -1, -2, 60, 61, 9999, 1 << 30, 31, 32, 10, 5, 4};
            return odd[random.nextInt(odd.length)];
        }
        switch (name) {
            case "hours":
            case "years":
                return profile == 1 || random.nextInt(4) == 0 ? 1 + random.nextInt(62) : random.nextInt(4);
            case "give":
                return random.nextInt(53);
            case "heard":
                return k == 0 ? random.nextInt(4) : heardCells();
            case "odds":
                return k == 0 ? cell() : k == 1 ? random.nextInt(10) : random.nextInt(103);
            case "shares":
                return k == 0 ? random.nextInt(5) : random.nextInt(1002);
            case "log":
                return k == 0 ? random.nextInt(random.nextBoolean() ? 3 : 63) : random.nextInt(4);
            case "site":
                return k == 2 ? random.nextInt(3) : random.nextInt(11);
            case "feed":
                return random.nextInt(3) == 0 ? random.nextInt() : 0;
            case "law":
            case "fault":
            case "text":
            case "end":
                return random.nextInt(6) - 1;
            case "fog":
            case "mist":
            case "most":
            case "count":
                return random.nextInt(12) - 1;
            case "rests":
                return random.nextInt(5) - 1;
            case "heights":
                return k == 0 ? cell() : random.nextInt(11) - 1;
            case "heap":
            case "dig":
            case "height":
            case "ask":
            case "risk":
                return cell();
            case "way":
                return k < 2 ? cell() : random.nextInt(2);
            case "moves":
            case "sees":
            case "given":
                return k == 0 ? random.nextInt(4) : cell();
            default:
                return random.nextInt(random.nextInt(3) == 0 ? 6 : 3);
        }
    }

    private int cell() {
        int cells = model.count(0);
        return random.nextInt(12) == 0 || cells == 0 ? random.nextInt(32) : random.nextInt(cells);
    }

    private int heardCells() {
        int tower = random.nextInt(4);
        int blind = model.map(tower, 0);
        return random.nextInt(3) == 0 || blind < 0 ? random.nextInt() >>> random.nextInt(32) : blind;
    }

    private void call(String name, Object... args) throws Exception {
        made++;
        if (broken || made > 512) {
            return;
        }
        int at = 0;
        while (!CALLS[at].getName().equals(name)) {
            at++;
        }
        String due = answer(DUE[at], model, args);
        String got = answer(CALLS[at], x, args);
        story.add(name + Arrays.toString(args) + " " + got);
        checks.yes(name + Arrays.toString(args) + " answered " + got + ", due is " + due, got.equals(due));
        if (!got.equals(due)) {
            broken = true;
            story.forEach(line -> System.out.println("  " + line));
        }
    }

    private static String answer(Method method, Object on, Object[] args) throws Exception {
        try {
            return String.valueOf(method.invoke(on, args));
        } catch (InvocationTargetException e) {
            return "throws." + e.getCause().getClass().getSimpleName();
        }
    }
}
