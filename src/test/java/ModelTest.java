import java.nio.charset.StandardCharsets;
import java.util.ArrayList;
import java.util.List;
import java.util.Random;

/** Random streets and calls: the class against the model, each answer. */
public final class ModelTest {
    private static final int NONE = -1;
    private static Random r;
    private static OppositeNets x;
    private static Model m;
    private static int seed;

    public static void main(String[] args) {
        int runs = args.length > 0 ? Integer.parseInt(args[0]) : 300;
        for (seed = 0; seed < runs; seed++) {
            r = new Random(seed);
            x = new OppositeNets();
            m = new Model();
            read(text());
            for (int i = 0; i < 250; i++) {
                call();
            }
        }
        for (seed = 0; seed < 20 * runs; seed++) {
            r = new Random(1000000 + seed);
            x = new OppositeNets();
            m = new Model();
            read(spoil(text()));
        }
        cats();
        Due.close("ModelTest");
    }

    private static void is(String call, long got, long due) {
        Due.is("seed " + seed + ": " + call, got, due);
    }

    // ---- texts ----

    private static int upTo(int n) {
        return r.nextInt(n + 1);
    }

    private static String text() {
        int houses = 2 + upTo(2);
        int storeys = 1 + upTo(5);
        int windows = 1 + upTo(r.nextInt(3) == 0 ? 8 : 3);
        int men = r.nextInt(4) == 0 ? upTo(9) : 4 + upTo(4);
        int nets = Math.min(windows, upTo(4) == 0 ? upTo(1) : 1 + upTo(1));
        int strong = r.nextBoolean() ? 59 : 9;
        int heavy = r.nextBoolean() ? 98 : r.nextBoolean() ? 20 : 5;
        List<String> lines = new ArrayList<>();
        for (int i = 0; i < windows; i++) {
            lines.add("window " + (r.nextInt(3) > 0 ? 0 : upTo(houses - 1)) + " " + (1 + upTo(storeys - 1)));
        }
        for (int i = 0; i < men; i++) {
            lines.add("man " + (r.nextInt(3) > 0 ? 1 + upTo(houses - 2) : upTo(houses - 1)) + " strength " + (1 + upTo(strong)));
        }
        List<Integer> at = new ArrayList<>();
        for (int i = 0; i < nets; i++) {
            int w = upTo(windows - 1);
            while (at.contains(w)) {
                w = (w + 1) % windows;
            }
            at.add(w);
            StringBuilder knots = new StringBuilder();
            for (int c = 0; c < 4; c++) {
                knots.append(' ').append(1 + upTo(r.nextBoolean() ? 98 : 20));
            }
            lines.add("net at " + w + " knots" + knots + " wears " + upTo(9) + (r.nextInt(4) == 0 ? " wet" : ""));
        }
        List<Integer> free = new ArrayList<>();
        for (int i = 0; i < men; i++) {
            free.add(r.nextInt(free.size() + 1), i);
        }
        for (int p = 0; p < 4 * nets; p++) {
            if (!free.isEmpty() && r.nextInt(8) > 0) {
                lines.add("stands " + free.remove(0) + " at " + p / 4 + " " + p % 4);
            }
        }
        int many = upTo(r.nextBoolean() ? 3 : 20);
        for (int i = 0; i < many && men > 1; i++) {
            int a = upTo(men - 1);
            lines.add("quarrel " + a + " " + (a + 1 + upTo(men - 2)) % men + " " + (1 + upTo(r.nextBoolean() ? 8 : 1)));
        }
        for (int i = upTo(2); i > 0; i--) {
            int a = upTo(houses - 1);
            lines.add("feud " + a + " " + (a + 1 + upTo(houses - 2)) % houses);
        }
        for (int i = upTo(6); i > 0; i--) {
            lines.add("jumper weight " + (1 + upTo(heavy)) + " at "
                    + (nets > 0 && r.nextInt(4) > 0 ? at.get(upTo(nets - 1)) : upTo(windows - 1)));
        }
        for (int i = upTo(7); i > 0; i--) {
            int a = upTo(houses - 1);
            lines.add("road " + a + " " + (a + 1 + upTo(houses - 2)) % houses + " " + (1 + upTo(r.nextBoolean() ? 98 : 3)));
        }
        StringBuilder all = new StringBuilder("street houses " + houses + " storeys " + storeys + ";");
        for (String line : lines) {
            if (all.length() + line.length() < 1390) {
                all.append(r.nextInt(3) == 0 ? " \n" : "").append(line).append(r.nextBoolean() ? " ;" : ";");
            }
        }
        return all.toString();
    }

    private static final String[] PIECES = {"street", "houses", "storeys", "window", "man", "net", "stands", "quarrel",
        "feud", "jumper", "road", "at", "wet", "knots", "wears", "weight", "strength", ";", "0", "1", "2", "3", "4", "5",
        "7", "9", "10", "60", "61", "99", "100", "4294967297", "x", "-", "\t", "\u00ff", "\u0000"};

    private static String spoil(String text) {
        StringBuilder b = new StringBuilder(text);
        switch (upTo(5)) {
            case 0:
                b.setLength(upTo(b.length()));
                break;
            case 1:
                b.insert(upTo(b.length()), PIECES[upTo(PIECES.length - 1)]);
                break;
            case 2:
                b.insert(upTo(b.length()), " " + PIECES[upTo(PIECES.length - 1)] + " ");
                break;
            case 3:
                int i = upTo(b.length() - 1);
                b.deleteCharAt(i);
                break;
            case 4:
                String[] parts = text.split("(?=;)|(?<=;)| ");
                parts[upTo(parts.length - 1)] = PIECES[upTo(PIECES.length - 1)];
                b = new StringBuilder(String.join(" ", parts));
                break;
            default:
                String[] lines = text.split("(?<=;)");
                String line = lines[upTo(lines.length - 1)];
                int n = line.startsWith("street") ? 1 : 1 + upTo(9);
                for (int k = 0; k < n; k++) {
                    b.append(line);
                }
                break;
        }
        if (b.length() > 1400) {
            b.setLength(1400);
        }
        return b.toString();
    }

    private static void read(String text) {
        is("street() of " + text, Due.read(x, text), m.street(text.getBytes(StandardCharsets.ISO_8859_1)));
        is("fault(0) of " + text, x.fault(0), m.fault);
        is("fault(1) of " + text, x.fault(1), m.place);
        is("count(7)", x.count(7), m.w.lines);
        is("count(0)", x.count(0), m.w.houses);
        is("count(1)", x.count(1), m.w.storeys);
        is("count(2)", x.count(2), m.w.windows.size());
        is("count(3)", x.count(3), m.w.men.size());
        is("count(4)", x.count(4), m.w.nets.size());
        is("count(5)", x.count(5), m.w.jumpers.size());
        is("count(6)", x.count(6), m.w.jumps.size());
    }

    // ---- calls: arguments reach one beyond what there is ----

    private static int man() {
        return upTo(m.w.men.size() + 1) - 1;
    }

    private static int net() {
        return upTo(11) == 0 ? upTo(3) - 1 : upTo(Math.max(0, m.w.nets.size() - 1));
    }

    private static int house() {
        return upTo(11) == 0 ? upTo(5) - 1 : upTo(Math.max(0, m.w.houses - 1));
    }

    private static int corner() {
        return upTo(11) == 0 ? upTo(5) - 1 : upTo(3);
    }

    private static int jumper() {
        return upTo(m.w.jumpers.size() + 1) - 1;
    }

    private static int bit() {
        return upTo(19) == 0 ? upTo(3) - 1 : upTo(1);
    }

    private static boolean isBit(int v) {
        return v == 0 || v == 1;
    }

    private static void call() {
        switch (upTo(10)) {
            case 0: tell(); break;
            case 1: relate(); break;
            case 2: holds(); break;
            case 3: jumps(); break;
            case 4: stands(); break;
            case 5: rows(); break;
            case 6: mends(); break;
            case 7: roads(); break;
            case 8: changes(); break;
            case 9: shares(); break;
            default: slots(); break;
        }
    }

    private static void tell() {
        int a = upTo(10) - 1;
        int c = corner();
        int what = upTo(6) - 1;
        boolean v = a >= 0 && a < m.w.windows.size() && what >= 0 && what <= 2;
        is("window", x.window(a, what), !v ? -2 : what == 2 ? m.netAt(a) : m.w.windows.get(a)[what]);
        is("man", x.man(a, what), m.isMan(a) && what >= 0 && what < 4 ? m.w.men.get(a)[what] : -2);
        int n = net();
        boolean t = m.isNet(n) && what >= 0 && what < 5;
        is("net " + n + " " + what, x.net(n, what), !t ? -2 : what == 3 ? m.need(n) : what == 4 ? m.carries(n) : m.w.nets.get(n)[what]);
        boolean k = m.isNet(n) && c >= 0 && c < 4 && what >= 0 && what < 3;
        is("corner", x.corner(n, c, what), !k ? -2 : what == 0 ? m.w.nets.get(n)[3 + c] : what == 1 ? m.who(n, c)
                : m.hold(n, m.window(n), m.crew(n), c, m.isWet(n), 0));
        int j = jumper();
        boolean s = j >= 0 && j < m.w.jumpers.size() && what >= 0 && what < 3;
        is("jumper", x.jumper(j, what), !s ? -2 : what == 2 ? m.force(j) : m.w.jumpers.get(j)[what]);
        is("quarrels", x.quarrels(), m.none() ? -2 : quarrels());
        is("count(6)", x.count(6), m.w.jumps.size());
    }

    private static int quarrels() {
        int sum = 0;
        for (int n = 0; n < m.w.nets.size(); n++) {
            sum += m.quarrelsOf(m.crew(n));
        }
        return sum;
    }

    private static void relate() {
        int a = man();
        int b = man();
        is("quarrel", x.quarrel(a, b), m.isMan(a) && m.isMan(b) && a != b ? m.quarrel(a, b) : -2);
        int h = house();
        int o = house();
        boolean two = m.isHouse(h) && m.isHouse(o) && h != o;
        is("feud", x.feud(h, o), two ? m.w.feuds.getOrDefault(Model.pair(h, o), 0) : -2);
        int w = upTo(10) - 1;
        is("will", x.will(a, w), m.isMan(a) && w >= 0 && w < m.w.windows.size() ? (m.will(a, w) ? 1 : 0) : -2);
        int c = bit();
        int d = bit();
        int what = bit();
        is("game", x.game(h, o, c, d, what), two && isBit(c) && isBit(d) && isBit(what) ? m.gain(h, o, c, d, what) : -2);
        is("rests", x.rests(h, o), two ? m.rests(h, o) : -2);
    }

    private static void holds() {
        int n = net();
        int f = upTo(11) == 0 ? -1 : upTo(250);
        int weight = upTo(11) == 0 ? upTo(1) * 100 : 1 + upTo(r.nextBoolean() ? 98 : 10);
        boolean is = m.isNet(n);
        is("gives", x.gives(n, f), is && f >= 0 ? m.gives(n, f) : -2);
        int j = jumper();
        int below = j >= 0 && j < m.w.jumpers.size() ? m.netAt(m.w.jumpers.get(j)[1]) : -2;
        is("held", x.held(j), below == -2 ? -2 : below != NONE && m.force(j) <= m.carries(below) ? 1 : 0);
        is("heaviest", x.heaviest(n), is ? heaviest(n) : -2);
        boolean ok = is && weight >= 1 && weight <= 99;
        is("highest", x.highest(n, weight), ok ? highest(n, weight) : -2);
        is("lasts", x.lasts(n, weight), ok ? m.lasts(n, weight) : -2);
    }

    private static int heaviest(int n) {
        int weight = 0;
        while ((weight + 1) * m.w.windows.get(m.window(n))[1] <= m.carries(n)) {
            weight++;
        }
        return weight;
    }

    private static int highest(int n, int weight) {
        int s = 6;
        while (s > 0 && s * weight > m.carries(n)) {
            s--;
        }
        return s;
    }

    private static void jumps() {
        int j = jumper();
        is("jump", x.jump(j), m.jump(j));
        if (upTo(3) == 0) {
            is("undo", x.undo(), m.undo());
        }
        int i = upTo(m.w.jumps.size() + 1) - 1;
        int what = upTo(4) - 1;
        int due = -2;
        if (!m.none() && what >= 0 && what <= 2) {
            boolean there = i >= 0 && i < m.w.jumps.size();
            due = !there ? NONE : what == 0 ? m.w.jumps.get(i).jumper
                    : what == 1 ? (m.w.jumps.get(i).gave == NONE ? 1 : 0) : m.w.jumps.get(i).gave;
        }
        is("led", x.led(i, what), due);
        int from = upTo(9) == 0 ? upTo(1) == 0 ? -1 : 2000000001 : r.nextInt(2000000001);
        int n = upTo(15) == 0 ? upTo(1) * 61 : 1 + upTo(r.nextBoolean() ? 59 : 3);
        int w = bit();
        boolean ok = !m.none() && from >= 0 && from <= 2000000000 && n >= 1 && n <= 60;
        if (ok) {
            m.night(from, n);
        }
        is("night", x.night(from, n, w), !ok || !isBit(w) ? -2 : w == 0 ? m.nightHeld : m.nightLost);
        int years = upTo(22);
        is("years", x.years(from, years, n), ok && years >= 1 && years <= 20 ? years(from, years, n) : -2);
    }

    private static int years(int from, int years, int n) {
        int good = 0;
        for (int i = 0; i < years; i++) {
            m.night((long) from + i, n);
            good += m.nightLost == NONE ? 1 : 0;
        }
        return good;
    }

    private static void stands() {
        int a = man();
        int n = upTo(3) == 0 ? NONE : net();
        int c = corner();
        boolean ok = m.isMan(a) && (n == NONE || m.isNet(n) && c >= 0 && c < 4 && (m.who(n, c) == NONE || m.who(n, c) == a));
        int due = -2;
        if (ok) {
            int[] he = m.w.men.get(a);
            due = he[2] == NONE ? NONE : 10 * he[2] + he[3];
            he[2] = n;
            he[3] = n == NONE ? NONE : c;
        }
        is("stand", x.stand(a, n, c), due);
        int b = man();
        boolean two = m.isMan(a) && m.isMan(b) && a != b;
        if (two) {
            int[] one = m.w.men.get(a).clone();
            int[] other = m.w.men.get(b);
            System.arraycopy(other, 2, m.w.men.get(a), 2, 2);
            System.arraycopy(one, 2, other, 2, 2);
        }
        is("change", x.change(a, b), two ? 0 : -2);
        int h = house();
        int sum = upTo(9) == 0 ? upTo(1) == 0 ? -1 : 1000001 : r.nextInt(1000001);
        is("corners", x.corners(h), m.isHouse(h) ? m.corners(h) : -2);
        int all = m.corners(NONE);
        is("pays", x.pays(h, sum), !m.isHouse(h) || sum < 0 || sum > 1000000 ? -2 : all == 0 ? NONE
                : (int) ((long) sum * m.corners(h) / all));
    }

    private static void rows() {
        int n = net();
        int c = corner();
        int least = upTo(11) == 0 ? -1 : upTo(r.nextBoolean() ? 240 : 30);
        int refused = !m.isNet(n) ? -2 : m.w.men.size() < 4 ? -6 : 0;
        if (refused == 0) {
            is("best", x.best(n), m.most(n, m.window(n), 15));
            is("rows", x.rows(n, least), least < 0 ? -2 : (int) m.rows(m.menOf(15)).stream()
                    .filter(row -> m.carries(n, m.window(n), row, m.isWet(n), 0) >= least).count());
            for (int k = -1; k < 5; k++) {
                is("post " + k, x.post(n, k), k < 0 || k > 3 ? -2 : m.standing(n, m.window(n), 15)[k]);
            }
        } else {
            is("best", x.best(n), refused);
            is("rows", x.rows(n, Math.max(0, least)), refused);
            is("post", x.post(n, c), c < 0 || c > 3 ? -2 : refused);
        }
        int what = bit();
        is("where", x.where(n, what), !isBit(what) ? -2 : refused != 0 ? refused : m.where(n, what));
        safety();
    }

    private static void safety() {
        if (m.none()) {
            is("safe", x.safe(), -2);
            is("ways", x.ways(), -2);
            is("placed", x.placed(0, 0), -2);
            return;
        }
        m.safe();
        is("safe", x.safe(), m.safeQuarrels);
        is("ways", x.ways(), m.safeWays);
        for (int n = -1; n < 3; n++) {
            for (int c = -1; c < 5; c++) {
                boolean is = m.isNet(n) && c >= 0 && c < 4;
                is("placed " + n + " " + c, x.placed(n, c), !is ? -2 : m.safeRows == null ? NONE : m.safeRows[n][c]);
            }
        }
    }

    private static void mends() {
        int n = net();
        int found = m.isNet(n) ? m.mends(n) : -2;
        is("peace", x.peace(n), found < 0 ? found : Integer.bitCount(found));
        is("mends", x.mends(n), found);
        int a = man();
        is("harm", x.harm(a), m.isMan(a) ? m.harm(a) : -1000);
        int key = NONE;
        for (int i = 0; i < m.w.men.size(); i++) {
            key = key == NONE || m.harm(i) > m.harm(key) ? i : key;
        }
        is("key", x.key(), m.none() ? -2 : key);
        is("helps", x.helps(), m.none() ? -2 : m.helps());
    }

    private static void roads() {
        int h = house();
        int o = house();
        boolean ok = m.isHouse(h) && m.isHouse(o);
        is("alarm", x.alarm(h, o), ok ? m.alarm(h, o) : -2);
        for (int i = -1; i < 5; i++) {
            is("route " + i, x.route(h, o, i), ok ? m.route(h, o, i) : -2);
        }
        is("last", x.last(h), m.isHouse(h) ? m.last(h) : -2);
        is("middle", x.middle(), m.none() ? -2 : m.middle());
    }

    private static void changes() {
        int n = net();
        int c = corner();
        int to = upTo(11) == 0 ? upTo(1) * 101 - 1 : upTo(99);
        if (upTo(2) == 0) {
            boolean ok = m.isNet(n) && c >= 0 && c < 4 && to >= 0 && to <= 99;
            int was = ok ? m.w.nets.get(n)[3 + c] : -2;
            if (ok) {
                m.w.nets.get(n)[3 + c] = to;
            }
            is("mend", x.mend(n, c, to), was);
        }
        int b = bit();
        boolean wets = m.isNet(n) && isBit(b);
        int wasWet = wets ? m.w.nets.get(n)[2] : -2;
        if (wets) {
            m.w.nets.get(n)[2] = b;
        }
        is("wet", x.wet(n, b), wasWet);
        int p = man();
        int q = man();
        int anger = upTo(12) - 1;
        boolean two = m.isMan(p) && m.isMan(q) && p != q && anger >= 0 && anger <= 9;
        int due = two ? m.quarrel(p, q) : -2;
        if (two) {
            m.w.quarrels.put(Model.pair(p, q), anger);
        }
        is("anger", x.anger(p, q, anger), due);
        int h = house();
        int o = house();
        int feud = upTo(2) == 0 ? bit() : 0;
        boolean sides = m.isHouse(h) && m.isHouse(o) && h != o && isBit(feud);
        int had = sides ? m.w.feuds.getOrDefault(Model.pair(h, o), 0) : -2;
        if (sides) {
            m.w.feuds.put(Model.pair(h, o), feud);
        }
        is("truce", x.truce(h, o, feud), had);
        images();
    }

    private static void images() {
        int k = upTo(4) - 1;
        boolean ok = k >= 0 && k < 3;
        if (upTo(2) == 0) {
            if (ok) {
                m.images[k] = m.w.copy();
            }
            is("image", x.image(k), ok ? 0 : -2);
        }
        if (upTo(4) == 0) {
            int due = !ok ? -2 : m.images[k] == null ? -6 : 0;
            if (due == 0) {
                m.w = m.images[k].copy();
            }
            is("back", x.back(k), due);
        }
        int rare = upTo(60);
        if (rare == 0) {
            read(text());
        } else if (rare == 1) {
            read(spoil(text()));
        } else if (rare == 2) {
            read("");
        }
    }

    private static void shares() {
        int n = net();
        int h = house();
        int what = bit();
        boolean ok = m.isNet(n) && m.isHouse(h);
        is("without", x.without(n, h), ok ? m.most(n, m.window(n), 15 & ~(1 << h)) : -2);
        is("fair", x.fair(n, h, what), ok && isBit(what) ? m.fair(n, h, what) : -2);
    }

    private static int slot() {
        return upTo(11) == 0 ? upTo(5) - 1 : upTo(3);
    }

    private static void slots() {
        int s = slot();
        int to = slot();
        boolean is = s >= 0 && s < 4;
        if (upTo(5) == 0) {
            int width = upTo(5) - 1;
            int n = upTo(5) == 0 ? upTo(70) - 5 : 3 * upTo(4);
            int due = !is || width < 0 || width > 3 || n > 60 ? -2 : n < 0 ? -3 : 0;
            if (due == 0) {
                m.slots[s] = new long[n];
                m.widths[s] = width;
            }
            is("row", x.row(s, width, n), due);
        }
        for (int t = 0; t < 6; t++) {
            int i = upTo(10) - 1;
            long v = i % 3 == 1 ? r.nextInt(3) == 0 ? r.nextLong() : upTo(200) : upTo(9) == 0 ? upTo(600) - 300 : upTo(1);
            int due = !is ? -2 : m.slots[s] == null ? -6 : i < 0 || i >= m.slots[s].length ? -7 : 0;
            if (due == 0) {
                int bits = 64 - (8 << m.widths[s]);
                m.slots[s][i] = v << bits >> bits;
            }
            is("write", x.write(s, i, v), due);
        }
        paste(s, to);
        int what = bit();
        int refused = m.seenRefused(to);
        is("seen", x.seen(to), refused != 0 ? refused : m.seenWays(to).size());
        is("sure", x.sure(to, what), !isBit(what) ? -2 : refused != 0 ? refused : m.sure(to, what));
        is("odd", x.odd(to), refused != 0 ? refused : m.firstOdd(to, m.wetBits()));
        int have = 0;
        for (long[] row : m.slots) {
            have += row == null ? 0 : 1;
        }
        is("count(9)", x.count(9), have);
    }

    private static void paste(int s, int to) {
        int i = upTo(7) - 1;
        int k = upTo(7) - 1;
        int n = upTo(8) - 1;
        int due = 0;
        if (s < 0 || s > 3 || to < 0 || to > 3) {
            due = -2;
        } else if (m.slots[s] == null || m.slots[to] == null) {
            due = -6;
        } else if (m.widths[s] != m.widths[to]) {
            due = -8;
        } else if (i < 0 || k < 0 || n < 0 || i + n > m.slots[s].length || k + n > m.slots[to].length) {
            due = -7;
        } else {
            long[] were = m.slots[s].clone();
            for (int t = 0; t < n; t++) {
                m.slots[to][k + t] = were[i + t];
            }
        }
        is("paste", x.paste(s, i, to, k, n), due);
    }

    private static void cats() {
        OppositeNets y = new OppositeNets();
        for (int cats = 1; cats < 10; cats++) {
            for (int n = 0; n < 100; n++) {
                is("tests " + n + " " + cats, y.tests(n, cats), Model.FALLS[n][cats]);
                if (n > 0) {
                    is("firstFall " + n + " " + cats, y.firstFall(n, cats), Model.FIRST[n][cats]);
                }
            }
            for (int falls = 0; falls < 13; falls++) {
                is("sought " + falls + " " + cats, y.sought(falls, cats), Model.sought(falls, cats));
            }
        }
    }
}
