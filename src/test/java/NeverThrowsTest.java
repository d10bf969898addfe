import java.lang.reflect.InvocationTargetException;
import java.lang.reflect.Method;
import java.lang.reflect.Modifier;
import java.util.Arrays;
import java.util.Comparator;
import java.util.NoSuchElementException;
import java.util.Random;

/** Whatever is asked, only tower() throws, and only what the document says; what is refused changes nothing. */
public final class NeverThrowsTest {
    private static final Checks checks = new Checks("NeverThrowsTest");
    private static final int[] ODD = {Integer.MIN_VALUE, Integer.MIN_VALUE + 1, -1000000, -2, -1, 0, 1, 2, 3, 4, 5, 9, 10,
        11, 29, 30, 31, 32, 33, 39, 40, 59, 60, 61, 99, 100, 127, 128, 240, 999, 1000, 1 << 30, Integer.MAX_VALUE};

    public static void main(String[] args) throws Exception {
        Method[] all = Arrays.stream(BlindSpots.class.getDeclaredMethods())
                .filter(m -> Modifier.isPublic(m.getModifiers())).toArray(Method[]::new);
        Arrays.sort(all, Comparator.comparing(Method::getName));
        for (int seed = 0; seed < 200; seed++) {
            run(all, new Random(seed));
        }
        everyByteAnywhere();
        checks.end();
    }

    private static void run(Method[] all, Random random) throws Exception {
        RandomTexts texts = new RandomTexts(random);
        BlindSpots x = random.nextInt(4) == 0 ? new BlindSpots() : Texts.land(texts.land());
        if (random.nextBoolean()) {
            Texts.feed(x, texts.law());
            x.text(1);
            x.law(0);
        }
        for (int k = 0; k < 400; k++) {
            Method method = all[random.nextInt(all.length)];
            Object[] args = new Object[method.getParameterCount()];
            for (int p = 0; p < args.length; p++) {
                Class<?> type = method.getParameterTypes()[p];
                int odd = ODD[random.nextInt(ODD.length)];
                if (type == boolean.class) {
                    args[p] = random.nextBoolean();
                } else if (type == long.class) {
                    args[p] = random.nextLong();
                } else {
                    args[p] = random.nextBoolean() ? odd : random.nextInt(6);
                }
            }
            String before = digest(x);
            try {
                Object answer = method.invoke(x, args);
                boolean refused = answer.equals(-1) && method.getReturnType() == int.class || answer.equals(false);
                checks.yes(method.getName() + Arrays.toString(args) + " was refused and changed something",
                        !refused || before.equals(digest(x)));
            } catch (InvocationTargetException e) {
                checks.yes(method.getName() + Arrays.toString(args) + " threw " + e.getCause(),
                        method.getName().equals("tower") && e.getCause() instanceof NoSuchElementException);
            }
        }
    }

    /** All but STATUS that can be asked for without changing it. */
    private static String digest(BlindSpots x) {
        StringBuilder text = new StringBuilder();
        for (int what = 0; what <= 10; what++) {
            text.append(x.count(what)).append(' ').append(x.rule(what)).append(' ').append(x.most(what)).append(' ');
        }
        for (int cell = 0; cell < 30; cell++) {
            text.append(x.height(cell)).append(x.heights(cell, -1)).append(' ');
        }
        for (int tower = 0; tower < x.count(1); tower++) {
            for (int what = 0; what <= 5; what++) {
                text.append(x.tower(tower, what)).append(' ');
            }
        }
        for (int i = 0; i < 60; i++) {
            text.append(x.log(i, 0)).append(' ').append(x.log(i, 1)).append(' ').append(x.log(i, 2)).append(' ');
        }
        return text.append(x.fault(0)).append(' ').append(x.fault(1)).toString();
    }

    private static void everyByteAnywhere() {
        String land = "s w4h3 k9;r12 3;tx1y1";
        String law = "y:!(l=f|[m]>2)&1<g?3*[h+n];y:2/l-1";
        BlindSpots x = new BlindSpots();
        for (int at = 0; at <= law.length(); at++) {
            for (int sign = 1; sign < 256; sign++) {
                if (at <= land.length()) {
                    String text = land.substring(0, at) + (char) sign + land.substring(at);
                    checks.due("4: fault(0) of " + text, Texts.fault(x, 0, text), ModelLand.fault(text, null));
                }
                String text = law.substring(0, at) + (char) sign + law.substring(at);
                checks.due("4: fault(1) of " + text, Texts.fault(x, 1, text), ModelLaw.fault(text));
            }
        }
        StringBuilder deep = new StringBuilder("y:");
        for (int k = 0; k < 238; k++) {
            deep.append("([!".charAt(k % 3));
        }
        checks.due("4: ever deeper", Texts.fault(x, 1, deep.toString()), ModelLaw.fault(deep.toString()));
    }
}
