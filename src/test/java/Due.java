import java.nio.charset.StandardCharsets;

/** What the tests share: putting a text on the tape, and counting answers that are not the due ones. */
final class Due {
    private static int asked = 0;
    private static int wrong = 0;

    private Due() {
    }

    static void feed(OppositeNets x, byte[] text) {
        int before = x.count(8);
        int[] five = new int[5];
        for (int at = 0; at < text.length; at += 20) {
            for (int k = 0; k < 5; k++) {
                five[k] = 0;
                for (int b = 0; b < 4; b++) {
                    int i = at + 4 * k + b;
                    five[k] = five[k] << 8 | (i < text.length ? text[i] & 255 : 0);
                }
            }
            x.feed(five[0], five[1], five[2], five[3], five[4]);
        }
        x.end(before + text.length);
    }

    static int read(OppositeNets x, String text) {
        feed(x, text.getBytes(StandardCharsets.ISO_8859_1));
        return x.street();
    }

    static OppositeNets told(String text) {
        OppositeNets x = new OppositeNets();
        if (read(x, text) <= 0) {
            is("a street of " + text, x.fault(0) * 10000L + x.fault(1), 0);
        }
        return x;
    }

    static void is(String call, long got, long due) {
        asked++;
        if (got != due) {
            wrong++;
            if (wrong <= 40) {
                System.out.println(call + " answered " + got + ", due is " + due);
            }
        }
    }

    static void close(String name) {
        System.out.println(name + ": " + asked + " answers, " + wrong + " not as due");
        if (wrong != 0 || asked == 0) {
            System.exit(1);
        }
    }
}
