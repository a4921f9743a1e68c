import java.lang.reflect.Method;
import java.lang.reflect.Modifier;
import java.nio.charset.StandardCharsets;
import java.util.Arrays;
import java.util.Comparator;

/** What the tests share: putting a text on the tape, and counting answers that are not the due ones. */
final class Due {
    /** Three houses, five men, of whom man 4 stands nowhere; net 0 carries 36, net 1 nothing; window 2 has no net. */
    static final String STREET =
            "street houses 3 storeys 4 ;\n"
            + "window 0 2 ; window 1 3 ; window 2 1 ;\n"
            + "man 1 strength 20 ; man 1 strength 15 ; man 2 strength 12 ; man 2 strength 30 ; man 0 strength 40 ;\n"
            + "net at 0 knots 10 12 14 16 wears 2 ; net at 1 knots 9 9 8 9 wears 0 wet ;\n"
            + "stands 0 at 0 0 ; stands 1 at 0 1 ; stands 2 at 0 2 ; stands 3 at 0 3 ;\n"
            + "quarrel 1 0 2 ; feud 2 1 ;\n"
            + "jumper weight 16 at 0 ; jumper weight 3 at 1 ; jumper weight 5 at 2 ;\n"
            + "road 0 1 5 ; road 1 2 7 ; road 2 0 20 ;\n";

    private static int asked = 0;
    private static int wrong = 0;
    private static String test = "";

    private Due() {
    }

    static void feed(OppositeNets x, byte[] text) {
        int before = x.count(8);
        int[] five = new int[5];
        for (int at = 0; at < text.length; at += 20) {
            for (int k = 0; k < 5; k++) {
                five[k] = 0;
                for (int b = 0; b < 4; b++) {
                    int i = at + 4 * k + b;
                    five[k] = five[k] << 8 | (i < text.length ? text[i] & 255 : 0);
                }
            }
            x.feed(five[0], five[1], five[2], five[3], five[4]);
        }
        x.end(before + text.length);
    }

    static void feed(OppositeNets x, String text) {
        feed(x, text.getBytes(StandardCharsets.ISO_8859_1));
    }

    static int read(OppositeNets x, String text) {
        feed(x, text);
        return x.street();
    }

    static OppositeNets told(String text) {
        OppositeNets x = new OppositeNets();
        if (read(x, text) <= 0) {
            is("a street of " + text, x.fault(0) * 10000L + x.fault(1), 0);
        }
        return x;
    }

    static void is(String call, long got, long due) {
        asked++;
        if (got != due) {
            wrong++;
            if (wrong <= 40) {
                System.out.println(test + call + " answered " + got + ", due is " + due);
            }
        }
    }

    /** Runs each test of a class: a static method without parameters that is not private; it is to ask something. */
    static void all(Class<?> tests) throws ReflectiveOperationException {
        Method[] found = tests.getDeclaredMethods();
        Arrays.sort(found, Comparator.comparing(Method::getName));
        int ran = 0;
        for (Method m : found) {
            if (m.getParameterCount() == 0 && !Modifier.isPrivate(m.getModifiers())) {
                int before = asked;
                test = m.getName() + ": ";
                m.invoke(null);
                is("something is asked", asked > before ? 1 : 0, 1);
                ran++;
            }
        }
        System.out.println(tests.getSimpleName() + ": " + ran + " tests");
        close(tests.getSimpleName());
    }

    static void close(String name) {
        System.out.println(name + ": " + asked + " answers, " + wrong + " not as due");
        if (wrong != 0 || asked == 0) {
            System.exit(1);
        }
    }
}
