import java.util.LinkedHashMap;
import java.util.Map;
import java.util.function.IntUnaryOperator;

/** What the tests of bounds share: numbers beyond a bound, and all that is to stay behind a refused call. */
final class Edge {
    private Edge() {
    }

    /** Numbers that are not low .. high: the ones beside it, the last ones, and such as wrap round into it. */
    static int[] outside(int low, int high) {
        long[] tried = {low - 1L, high + 1L, low - 256L, low + 256L, high + 65536L, low + (1L << 30),
            Integer.MIN_VALUE, Integer.MIN_VALUE + (long) high, Integer.MAX_VALUE};
        int[] found = new int[tried.length];
        int n = 0;
        for (long v : tried) {
            if ((v < low || v > high) && v >= Integer.MIN_VALUE && v <= Integer.MAX_VALUE) {
                found[n] = (int) v;
                n++;
            }
        }
        return java.util.Arrays.copyOf(found, n);
    }

    /** Asks with each number that is not low .. high; the ? in the call's text stands for it. */
    static void refused(String call, int low, int high, IntUnaryOperator asked, int due) {
        for (int v : outside(low, high)) {
            Due.is(call.replace("?", String.valueOf(v)), asked.applyAsInt(v), due);
        }
    }

    /** Asks with the bounds themselves, and then beyond them. */
    static void bounds(String call, int low, int high, IntUnaryOperator asked, int dueLow, int dueHigh, int due) {
        Due.is(call.replace("?", String.valueOf(low)), asked.applyAsInt(low), dueLow);
        Due.is(call.replace("?", String.valueOf(high)), asked.applyAsInt(high), dueHigh);
        refused(call, low, high, asked, due);
    }

    /** All that can be asked of an object without changing it, for a small street (an object has 512 calls). */
    static Map<String, Integer> whole(OppositeNets x) {
        Map<String, Integer> all = new LinkedHashMap<>();
        for (int what = 0; what < 10; what++) {
            all.put("count(" + what + ")", x.count(what));
        }
        all.put("fault(0)", x.fault(0));
        all.put("fault(1)", x.fault(1));
        addThings(x, all);
        addNets(x, all);
        addHouses(x, all);
        for (int i = 0; i < x.count(6); i++) {
            for (int what = 0; what < 3; what++) {
                all.put("led(" + i + ", " + what + ")", x.led(i, what));
            }
        }
        for (int s = 0; s < 4; s++) {
            all.put("seen(" + s + ")", x.seen(s));
            all.put("sure(" + s + ", 0)", x.sure(s, 0));
            all.put("odd(" + s + ")", x.odd(s));
        }
        return all;
    }

    private static void addThings(OppositeNets x, Map<String, Integer> all) {
        for (int w = 0; w < x.count(2); w++) {
            for (int what = 0; what < 3; what++) {
                all.put("window(" + w + ", " + what + ")", x.window(w, what));
            }
        }
        for (int m = 0; m < x.count(3); m++) {
            for (int what = 0; what < 4; what++) {
                all.put("man(" + m + ", " + what + ")", x.man(m, what));
            }
            for (int o = 0; o < m; o++) {
                all.put("quarrel(" + m + ", " + o + ")", x.quarrel(m, o));
            }
        }
        for (int j = 0; j < x.count(5); j++) {
            all.put("jumper(" + j + ", 0)", x.jumper(j, 0));
            all.put("jumper(" + j + ", 1)", x.jumper(j, 1));
        }
    }

    private static void addNets(OppositeNets x, Map<String, Integer> all) {
        for (int n = 0; n < x.count(4); n++) {
            for (int what = 0; what < 5; what++) {
                all.put("net(" + n + ", " + what + ")", x.net(n, what));
            }
            for (int c = 0; c < 4; c++) {
                all.put("corner(" + n + ", " + c + ", 0)", x.corner(n, c, 0));
                all.put("corner(" + n + ", " + c + ", 1)", x.corner(n, c, 1));
            }
        }
    }

    private static void addHouses(OppositeNets x, Map<String, Integer> all) {
        for (int h = 0; h < x.count(0); h++) {
            for (int o = 0; o < h; o++) {
                all.put("feud(" + h + ", " + o + ")", x.feud(h, o));
                all.put("alarm(" + h + ", " + o + ")", x.alarm(h, o));
            }
        }
    }

    /** All stays as it was behind calls that are refused. */
    static void stays(String calls, OppositeNets x, Runnable refused) {
        Map<String, Integer> before = whole(x);
        refused.run();
        Map<String, Integer> after = whole(x);
        Due.is(calls + ": as many answers", after.size(), before.size());
        for (Map.Entry<String, Integer> e : before.entrySet()) {
            Due.is(calls + " leaves " + e.getKey(), after.getOrDefault(e.getKey(), Integer.MIN_VALUE), e.getValue());
        }
    }

    /** One window of house 0, and four men of house 1 at the corners of its net. */
    static String four(int storey, int strength, int knot, int wears) {
        String k = " " + knot;
        return "street houses 2 storeys 6; window 0 " + storey + "; " + men(4, strength)
                + "net at 0 knots" + k + k + k + k + " wears " + wears + "; " + stand(0, 0);
    }

    static String men(int n, int strength) {
        return ("man 1 strength " + strength + "; ").repeat(n);
    }

    /** Four men, from one on, at the corners of a net. */
    static String stand(int net, int from) {
        StringBuilder b = new StringBuilder();
        for (int c = 0; c < 4; c++) {
            b.append("stands ").append(from + c).append(" at ").append(net).append(' ').append(c).append("; ");
        }
        return b.toString();
    }

    /** Five men and two nets: at net 0 all corners are taken, at net 1 none; a jump has been, and a row is there. */
    static OppositeNets busy() {
        OppositeNets x = Due.told(Due.STREET);
        x.jump(0);
        x.row(0, 2, 3);
        x.write(0, 2, 1);
        return x;
    }

    /** As much as there may be: 4 HOUSES, 6 storeys, 9 WINDOWS, 9 MEN, 2 NETS (at windows 0 and 8), 9 JUMPERS. */
    static String fullText() {
        StringBuilder b = new StringBuilder("street houses 4 storeys 6;");
        for (int i = 0; i < 9; i++) {
            b.append("window ").append(i % 4).append(' ').append(1 + i % 6).append(';');
            b.append("man ").append(1 + i % 3).append(" strength ").append(60 - i).append(';');
        }
        b.append("net at 0 knots 99 98 97 96 wears 9;net at 8 knots 1 2 3 4 wears 0 wet;");
        b.append(stand(0, 0)).append(stand(1, 4));
        for (int i = 0; i < 9; i++) {
            b.append("jumper weight ").append(99 - i).append(" at ").append(8 - i).append(';');
        }
        return b.append("quarrel 8 7 9;quarrel 0 8 1;feud 3 2;road 0 1 99;road 1 2 99;road 2 3 99;").toString();
    }

    static OppositeNets full() {
        return Due.told(fullText());
    }
}
