import java.lang.reflect.Constructor;
import java.lang.reflect.Field;
import java.lang.reflect.Member;
import java.lang.reflect.Method;
import java.lang.reflect.Modifier;
import java.util.Set;
import java.util.TreeSet;

/** The face is the document's, no more and no less (the constants, promise 1, LANGUAGE.md rule 1). */
public final class FaceTest {
    private static final String[] METHODS = {
        "int feed(int,int,int,int,int)", "boolean end(int)", "int fault(int)", "int text(int)",
        "int rule(int)", "int height(int)", "int tower(int,int)", "boolean law(int)",
        "int hours(int)", "int heap(int)", "int dig(int)", "int mast(int)", "int moves(int,int)",
        "int fog(int)", "int oath(int)", "int give(int)", "boolean mist(int)",
        "int years(int,long)", "int status(int)", "int undo()", "int log(int,int)",
        "int sees(int,int)", "int map(int,int)", "int way(int,int,int)", "int risk(int,int)",
        "int enough()", "int site(int,int,int)", "int watched(int)",
        "int given(int,int,boolean)", "int heights(int,int)", "int ask(int)",
        "int heard(int,int)", "int game(int,int,int,int,int)", "int rests(int,int,int)",
        "int odds(int,int,int)", "int shares(int,int)", "int most(int)", "int image()",
        "int back()", "int count(int)"};

    private static final Checks checks = new Checks("FaceTest");

    public static void main(String[] args) {
        checks.due("NONE", BlindSpots.NONE, -1);
        checks.due("HIDDEN", BlindSpots.HIDDEN, -1000000);
        checks.yes("the class is public and final",
                Modifier.isFinal(BlindSpots.class.getModifiers())
                && Modifier.isPublic(BlindSpots.class.getModifiers()));
        methods();
        fields();
        constructors();
        checks.end();
    }

    private static void methods() {
        Set<String> want = new TreeSet<>(Set.of(METHODS));
        Set<String> got = new TreeSet<>();
        Set<String> names = new TreeSet<>();
        for (String method : METHODS) {
            names.add(method.substring(method.indexOf(' ') + 1, method.indexOf('(')));
        }
        for (Method method : BlindSpots.class.getDeclaredMethods()) {
            if (visible(method)) {
                got.add(written(method));
                checks.yes(method + " belongs to an object", !Modifier.isStatic(method.getModifiers()));
            } else {
                checks.yes("no private method is called " + method.getName(),
                        !names.contains(method.getName()));
            }
        }
        checks.yes("methods " + got, got.equals(want));
        for (Class<?> inside : BlindSpots.class.getDeclaredClasses()) {
            checks.yes(inside + " is static", Modifier.isStatic(inside.getModifiers()));
            for (Method method : inside.getDeclaredMethods()) {
                checks.yes("no method inside is called " + method.getName(),
                        !names.contains(method.getName()));
            }
        }
    }

    private static void fields() {
        Set<String> got = new TreeSet<>();
        for (Field field : BlindSpots.class.getDeclaredFields()) {
            if (visible(field)) {
                got.add(field.getName());
            }
        }
        checks.yes("constants " + got, got.equals(Set.of("NONE", "HIDDEN")));
    }

    private static void constructors() {
        Constructor<?>[] all = BlindSpots.class.getDeclaredConstructors();
        checks.yes("one constructor, without arguments",
                all.length == 1 && all[0].getParameterCount() == 0
                && Modifier.isPublic(all[0].getModifiers()));
    }

    private static boolean visible(Member member) {
        return !Modifier.isPrivate(member.getModifiers()) && !member.isSynthetic();
    }

    private static String written(Method method) {
        StringBuilder text = new StringBuilder();
        text.append(method.getReturnType().getName()).append(' ').append(method.getName()).append('(');
        Class<?>[] types = method.getParameterTypes();
        for (int k = 0; k < types.length; k++) {
            text.append(k == 0 ? "" : ",").append(types[k].getName());
        }
        return text.append(')').toString();
    }
}
