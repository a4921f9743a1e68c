import java.nio.charset.StandardCharsets;

/** The example of README.md: a street's text is put on the tape, read, and asked. */
public final class Evening {
    static final String STREET =
            "street houses 3 storeys 4;\n"
            + "window 0 2; window 1 3;\n"
            + "man 1 strength 20; man 1 strength 15; man 2 strength 12; man 2 strength 30; man 0 strength 25;\n"
            + "net at 0 knots 10 12 14 16 wears 2;\n"
            + "stands 0 at 0 0; stands 1 at 0 1; stands 2 at 0 2; stands 3 at 0 3;\n"
            + "quarrel 0 1 2;\n"
            + "jumper weight 18 at 0; jumper weight 5 at 1;\n"
            + "road 0 1 5; road 1 2 7;\n";

    public static void main(String[] args) {
        OppositeNets x = new OppositeNets();
        put(x, args.length > 0 ? args[0] : STREET);
        int lines = x.street();
        if (lines < 0) {
            System.out.println("fault " + x.fault(0) + " at byte " + x.fault(1));
            return;
        }
        System.out.println("lines: " + lines);
        for (int net = 0; net < x.count(4); net++) {
            System.out.println("net " + net + " carries " + x.net(net, 4) + ", at most " + x.best(net));
        }
        for (int jumper = 0; jumper < x.count(5); jumper++) {
            System.out.println("jumper " + jumper + " is " + (x.held(jumper) == 1 ? "held" : "not held"));
        }
    }

    /** Twenty bytes a call, four of each number, the highest first; end() cuts off what fills up the last call. */
    static void put(OppositeNets x, String text) {
        byte[] b = text.getBytes(StandardCharsets.US_ASCII);
        int before = x.count(8);
        for (int at = 0; at < b.length; at += 20) {
            x.feed(four(b, at), four(b, at + 4), four(b, at + 8), four(b, at + 12), four(b, at + 16));
        }
        x.end(before + b.length);
    }

    static int four(byte[] b, int from) {
        int v = 0;
        for (int i = from; i < from + 4; i++) {
            v = v << 8 | (i < b.length ? b[i] : 0);
        }
        return v;
    }
}
