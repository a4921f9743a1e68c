import java.util.ArrayList;
import java.util.Arrays;
import java.util.HashMap;
import java.util.List;
import java.util.Map;

/** A second writing of the document, as plain and slow as can be: all rows, all orders, all ways are tried out. */
final class Model {
    static final int NONE = -1;

    static final class Jumped {
        int jumper;
        int gave;
        int[] knots;
    }

    static final class World {
        int houses;
        int storeys;
        int lines;
        List<int[]> windows = new ArrayList<>();   // house, storey
        List<int[]> men = new ArrayList<>();       // house, strength, net, corner
        List<int[]> nets = new ArrayList<>();      // window, wears, wet, knots 3 .. 6
        List<int[]> jumpers = new ArrayList<>();   // weight, window
        Map<String, Integer> quarrels = new HashMap<>();
        Map<String, Integer> feuds = new HashMap<>();
        Map<String, Integer> roads = new HashMap<>();
        List<Jumped> jumps = new ArrayList<>();

        World copy() {
            World w = new World();
            w.houses = houses;
            w.storeys = storeys;
            w.lines = lines;
            windows.forEach(a -> w.windows.add(a.clone()));
            men.forEach(a -> w.men.add(a.clone()));
            nets.forEach(a -> w.nets.add(a.clone()));
            jumpers.forEach(a -> w.jumpers.add(a.clone()));
            w.quarrels.putAll(quarrels);
            w.feuds.putAll(feuds);
            w.roads.putAll(roads);
            w.jumps.addAll(jumps);
            return w;
        }
    }

    World w = new World();
    World[] images = new World[3];
    long[][] slots = new long[4][];
    int[] widths = {NONE, NONE, NONE, NONE};
    int fault = 0;
    int place = NONE;

    static String pair(int a, int b) {
        return Math.min(a, b) + "/" + Math.max(a, b);
    }

    // ---- reading ----

    private static final Map<String, String> LINES = new HashMap<>();

    static {
        LINES.put("street", "houses #houses storeys #storeys");
        LINES.put("window", "#house #storey");
        LINES.put("man", "#house strength #strength");
        LINES.put("net", "at #bare knots #knot #knot #knot #knot wears #wears ?wet");
        LINES.put("stands", "#idle at #net #free");
        LINES.put("quarrel", "#man #otherman #anger");
        LINES.put("feud", "#house #otherhouse");
        LINES.put("jumper", "weight #weight at #window");
        LINES.put("road", "#house #otherhouse #minutes");
    }

    private static final class Token {
        String text;
        int at;
    }

    private static final class Bad extends RuntimeException {
        private static final long serialVersionUID = 1L;
        final int kind;
        final int where;

        Bad(int kind, int where) {
            super("", null, false, false);
            this.kind = kind;
            this.where = where;
        }
    }

    private static List<Token> tokens(byte[] text) {
        List<Token> all = new ArrayList<>();
        String s = new String(text, java.nio.charset.StandardCharsets.ISO_8859_1);
        java.util.regex.Matcher m = java.util.regex.Pattern.compile("[a-z]+|[0-9]+|;|[^ \n]", java.util.regex.Pattern.DOTALL)
                .matcher(s);
        while (m.find()) {
            Token t = new Token();
            t.text = m.group();
            t.at = m.start();
            all.add(t);
        }
        Token end = new Token();
        end.text = "";
        end.at = text.length;
        all.add(end);
        return all;
    }

    int street(byte[] text) {
        World made = new World();
        fault = 0;
        place = NONE;
        try {
            List<Token> all = tokens(text);
            int i = 0;
            while (!all.get(i).text.isEmpty()) {
                i = line(made, all, i);
                made.lines++;
            }
        } catch (Bad b) {
            fault = b.kind;
            place = b.where;
            return -4;
        }
        w = made;
        return w.lines;
    }

    private int line(World m, List<Token> all, int from) {
        Token head = all.get(from);
        String form = LINES.get(head.text);
        if (form == null || head.text.equals("street") != (m.lines == 0)) {
            throw new Bad(1, head.at);
        }
        boolean full = head.text.equals("window") && m.windows.size() == 9 || head.text.equals("man") && m.men.size() == 9
                || head.text.equals("jumper") && m.jumpers.size() == 9 || head.text.equals("net") && m.nets.size() == 2;
        if (full) {
            throw new Bad(3, head.at);
        }
        List<Integer> read = new ArrayList<>();
        boolean wet = false;
        int i = from + 1;
        for (String part : form.split(" ")) {
            Token t = all.get(i);
            if (part.equals("?wet")) {
                if (t.text.equals("wet")) {
                    wet = true;
                    i++;
                }
            } else if (part.startsWith("#")) {
                if (!t.text.matches("[0-9]+")) {
                    throw new Bad(1, t.at);
                }
                java.math.BigInteger v = new java.math.BigInteger(t.text);
                int n = v.bitLength() > 30 ? 1 << 30 : v.intValue();
                if (!fits(m, part.substring(1), n, read)) {
                    throw new Bad(2, t.at);
                }
                read.add(n);
                i++;
            } else {
                if (!t.text.equals(part)) {
                    throw new Bad(1, t.at);
                }
                i++;
            }
        }
        if (!all.get(i).text.equals(";")) {
            throw new Bad(1, all.get(i).at);
        }
        apply(m, head.text, read, wet);
        return i + 1;
    }

    private static boolean in(int n, int low, int high) {
        return n >= low && n <= high;
    }

    private static boolean fits(World m, String kind, int n, List<Integer> read) {
        switch (kind) {
            case "houses": return in(n, 2, 4);
            case "storeys": return in(n, 1, 6);
            case "house": return in(n, 0, m.houses - 1);
            case "storey": return in(n, 1, m.storeys);
            case "strength": return in(n, 1, 60);
            case "window": return in(n, 0, m.windows.size() - 1);
            case "bare": return in(n, 0, m.windows.size() - 1) && m.nets.stream().noneMatch(a -> a[0] == n);
            case "knot": return in(n, 1, 99);
            case "wears": return in(n, 0, 9);
            case "man": return in(n, 0, m.men.size() - 1);
            case "idle": return in(n, 0, m.men.size() - 1) && m.men.get(n)[2] == NONE;
            case "net": return in(n, 0, m.nets.size() - 1);
            case "free": return in(n, 0, 3) && m.men.stream().noneMatch(a -> a[2] == read.get(1) && a[3] == n);
            case "otherman": return in(n, 0, m.men.size() - 1) && n != read.get(0);
            case "otherhouse": return in(n, 0, m.houses - 1) && n != read.get(0);
            case "anger": return in(n, 1, 9);
            case "weight": case "minutes": return in(n, 1, 99);
            default: throw new IllegalStateException(kind);
        }
    }

    private static void apply(World m, String head, List<Integer> r, boolean wet) {
        switch (head) {
            case "street": m.houses = r.get(0); m.storeys = r.get(1); break;
            case "window": m.windows.add(new int[] {r.get(0), r.get(1)}); break;
            case "man": m.men.add(new int[] {r.get(0), r.get(1), NONE, NONE}); break;
            case "net": m.nets.add(new int[] {r.get(0), r.get(5), wet ? 1 : 0, r.get(1), r.get(2), r.get(3), r.get(4)}); break;
            case "stands": m.men.get(r.get(0))[2] = r.get(1); m.men.get(r.get(0))[3] = r.get(2); break;
            case "quarrel": m.quarrels.put(pair(r.get(0), r.get(1)), r.get(2)); break;
            case "feud": m.feuds.put(pair(r.get(0), r.get(1)), 1); break;
            case "jumper": m.jumpers.add(new int[] {r.get(0), r.get(1)}); break;
            default: m.roads.put(pair(r.get(0), r.get(1)), r.get(2)); break;
        }
    }

    // ---- holding ----

    boolean isMan(int m) {
        return in(m, 0, w.men.size() - 1);
    }

    boolean isNet(int n) {
        return in(n, 0, w.nets.size() - 1);
    }

    boolean isHouse(int h) {
        return in(h, 0, w.houses - 1);
    }

    boolean none() {
        return w.lines == 0;
    }

    int who(int net, int corner) {
        for (int m = 0; m < w.men.size(); m++) {
            if (w.men.get(m)[2] == net && w.men.get(m)[3] == corner) {
                return m;
            }
        }
        return NONE;
    }

    int[] crew(int net) {
        return new int[] {who(net, 0), who(net, 1), who(net, 2), who(net, 3)};
    }

    int quarrel(int a, int b) {
        return a == NONE || b == NONE ? 0 : w.quarrels.getOrDefault(pair(a, b), 0);
    }

    boolean will(int man, int window) {
        int his = w.men.get(man)[0];
        int its = w.windows.get(window)[0];
        return his != its && w.feuds.getOrDefault(pair(his, its), 0) == 0;
    }

    int hold(int net, int window, int[] row, int corner, boolean wet, int peace) {
        int m = row[corner];
        if (m == NONE || !will(m, window)) {
            return 0;
        }
        int all = w.men.get(m)[1];
        int next = (corner + 1) % 4;
        int before = (corner + 3) % 4;
        all -= (peace >> corner & 1) == 1 ? 0 : 3 * quarrel(m, row[next]);
        all -= (peace >> before & 1) == 1 ? 0 : 3 * quarrel(m, row[before]);
        int knot = w.nets.get(net)[3 + corner];
        all = Math.min(all, wet ? knot / 2 : knot);
        return Math.max(all, 0);
    }

    int carries(int net, int window, int[] row, boolean wet, int peace) {
        int least = Integer.MAX_VALUE;
        for (int c = 0; c < 4; c++) {
            least = Math.min(least, hold(net, window, row, c, wet, peace));
        }
        return 4 * least;
    }

    boolean isWet(int net) {
        return w.nets.get(net)[2] == 1;
    }

    int window(int net) {
        return w.nets.get(net)[0];
    }

    int carries(int net) {
        return carries(net, window(net), crew(net), isWet(net), 0);
    }

    int force(int j) {
        return w.jumpers.get(j)[0] * w.windows.get(w.jumpers.get(j)[1])[1];
    }

    int need(int net) {
        int n = 0;
        for (int j = 0; j < w.jumpers.size(); j++) {
            n = w.jumpers.get(j)[1] == window(net) ? Math.max(n, force(j)) : n;
        }
        return n;
    }

    int netAt(int window) {
        for (int n = 0; n < w.nets.size(); n++) {
            if (window(n) == window) {
                return n;
            }
        }
        return NONE;
    }

    int gives(int net, int force) {
        if (force <= carries(net)) {
            return NONE;
        }
        int found = 0;
        for (int c = 1; c < 4; c++) {
            if (hold(net, window(net), crew(net), c, isWet(net), 0) < hold(net, window(net), crew(net), found, isWet(net), 0)) {
                found = c;
            }
        }
        return found;
    }

    int fall(int net, int force) {
        int gave = gives(net, force);
        int[] n = w.nets.get(net);
        if (gave == NONE) {
            for (int c = 3; c < 7; c++) {
                n[c] = Math.max(0, n[c] - n[1] * w.windows.get(n[0])[1]);
            }
        } else {
            n[3 + gave] = 0;
        }
        return gave;
    }

    int jump(int j) {
        if (!in(j, 0, w.jumpers.size() - 1)) {
            return -2;
        }
        int net = netAt(w.jumpers.get(j)[1]);
        if (net == NONE || w.jumps.size() == 60) {
            return -5;
        }
        Jumped d = new Jumped();
        d.jumper = j;
        d.knots = Arrays.copyOfRange(w.nets.get(net), 3, 7);
        d.gave = fall(net, force(j));
        w.jumps.add(d);
        return d.gave == NONE ? 1 : 0;
    }

    int undo() {
        if (none()) {
            return -2;
        }
        if (w.jumps.isEmpty()) {
            return -5;
        }
        Jumped d = w.jumps.remove(w.jumps.size() - 1);
        System.arraycopy(d.knots, 0, w.nets.get(netAt(w.jumpers.get(d.jumper)[1])), 3, 4);
        return w.jumps.size();
    }

    int lasts(int net, int weight) {
        World kept = w;
        w = w.copy();
        int n = 0;
        while (n < 999 && fall(net, weight * w.windows.get(window(net))[1]) == NONE) {
            n++;
        }
        w = kept;
        return n;
    }

    // ---- rows ----

    List<int[]> rows(List<Integer> men) {
        List<int[]> all = new ArrayList<>();
        for (int a : men) {
            for (int b : men) {
                for (int c : men) {
                    for (int d : men) {
                        if (a != b && a != c && a != d && b != c && b != d && c != d) {
                            all.add(new int[] {a, b, c, d});
                        }
                    }
                }
            }
        }
        return all;
    }

    List<Integer> menOf(int houses) {
        List<Integer> all = new ArrayList<>();
        for (int m = 0; m < w.men.size(); m++) {
            if ((houses >> w.men.get(m)[0] & 1) == 1) {
                all.add(m);
            }
        }
        return all;
    }

    int[] standing(int net, int window, int houses) {
        int[] best = null;
        for (int[] r : rows(menOf(houses))) {
            if (best == null || carries(net, window, r, isWet(net), 0) > carries(net, window, best, isWet(net), 0)) {
                best = r;
            }
        }
        return best;
    }

    int most(int net, int window, int houses) {
        int[] r = standing(net, window, houses);
        return r == null ? 0 : carries(net, window, r, isWet(net), 0);
    }

    int quarrelsOf(int[] row) {
        return quarrel(row[0], row[1]) + quarrel(row[1], row[2]) + quarrel(row[2], row[3]) + quarrel(row[3], row[0]);
    }

    int safeQuarrels;
    int safeWays;
    int[][] safeRows;

    void safe() {
        safeQuarrels = NONE;
        safeWays = 0;
        safeRows = null;
        List<int[]> first = crews(0);
        List<int[]> second = crews(1);
        for (int[] a : first) {
            for (int[] b : second) {
                if (apart(a, b)) {
                    safeWays++;
                    int q = quarrelsOf(a) + quarrelsOf(b);
                    if (safeRows == null || q < safeQuarrels) {
                        safeQuarrels = q;
                        safeRows = new int[][] {a, b};
                    }
                }
            }
        }
    }

    private List<int[]> crews(int net) {
        List<int[]> all = new ArrayList<>();
        if (net >= w.nets.size() || need(net) == 0) {
            all.add(new int[] {NONE, NONE, NONE, NONE});
            return all;
        }
        for (int[] r : rows(menOf(15))) {
            if (carries(net, window(net), r, isWet(net), 0) >= need(net)) {
                all.add(r);
            }
        }
        return all;
    }

    private static boolean apart(int[] a, int[] b) {
        for (int x : a) {
            for (int y : b) {
                if (x == y && x != NONE) {
                    return false;
                }
            }
        }
        return true;
    }

    int where(int net, int what) {
        int found = NONE;
        int most = -1;
        for (int v = 0; v < w.windows.size(); v++) {
            boolean taken = false;
            for (int other = 0; other < w.nets.size(); other++) {
                taken |= other != net && window(other) == v;
            }
            if (taken) {
                continue;
            }
            int carried = most(net, v, 15);
            int n = 0;
            for (int j = 0; j < w.jumpers.size(); j++) {
                n += w.jumpers.get(j)[1] == v && force(j) <= carried ? 1 : 0;
            }
            if (n > most) {
                most = n;
                found = v;
            }
        }
        return what == 0 ? found : most;
    }

    int mends(int net) {
        for (int few = 0; few <= 4; few++) {
            for (int set = 0; set < 16; set++) {
                if (Integer.bitCount(set) == few && carries(net, window(net), crew(net), isWet(net), set) >= need(net)) {
                    return set;
                }
            }
        }
        return NONE;
    }

    int allCarry() {
        int sum = 0;
        for (int n = 0; n < w.nets.size(); n++) {
            sum += carries(n);
        }
        return sum;
    }

    int harm(int man) {
        World kept = w;
        int now = allCarry();
        w = w.copy();
        w.men.get(man)[2] = NONE;
        w.men.get(man)[3] = NONE;
        int then = allCarry();
        w = kept;
        return now - then;
    }

    int helps() {
        int found = NONE;
        int most = allCarry();
        World kept = w;
        for (int m = 0; m < kept.men.size(); m++) {
            for (int n = 0; n < kept.nets.size() && kept.men.get(m)[2] == NONE; n++) {
                for (int c = 0; c < 4; c++) {
                    if (who(n, c) != NONE) {
                        continue;
                    }
                    w = kept.copy();
                    w.men.get(m)[2] = n;
                    w.men.get(m)[3] = c;
                    if (allCarry() > most) {
                        most = allCarry();
                        found = 100 * m + 10 * n + c;
                    }
                    w = kept;
                }
            }
        }
        return found;
    }

    // ---- roads ----

    private int wayMinutes;
    private List<Integer> way;

    void seekWay(int from, int to) {
        wayMinutes = NONE;
        way = null;
        List<Integer> path = new ArrayList<>();
        path.add(from);
        walk(path, 0, to);
    }

    private void walk(List<Integer> path, int minutes, int to) {
        int here = path.get(path.size() - 1);
        if (here == to) {
            if (way == null || minutes < wayMinutes) {
                wayMinutes = minutes;
                way = new ArrayList<>(path);
            }
            return;
        }
        for (int h = 0; h < w.houses; h++) {
            Integer road = w.roads.get(pair(here, h));
            if (road != null && !path.contains(h)) {
                path.add(h);
                walk(path, minutes + road, to);
                path.remove(path.size() - 1);
            }
        }
    }

    int alarm(int a, int b) {
        seekWay(a, b);
        return way == null ? NONE : wayMinutes;
    }

    int route(int a, int b, int i) {
        seekWay(a, b);
        return way == null || i < 0 || i >= way.size() ? NONE : way.get(i);
    }

    int last(int h) {
        int most = 0;
        for (int o = 0; o < w.houses; o++) {
            int m = alarm(h, o);
            if (m == NONE) {
                return NONE;
            }
            most = Math.max(m, most);
        }
        return most;
    }

    int middle() {
        int found = NONE;
        for (int h = 0; h < w.houses; h++) {
            if (last(h) != NONE && (found == NONE || last(h) < last(found))) {
                found = h;
            }
        }
        return found;
    }

    // ---- the game ----

    int gain(int house, int other, int choice, int reply, int what) {
        World kept = w;
        w = w.copy();
        for (int[] n : w.nets) {
            int its = w.windows.get(n[0])[0];
            if (its == other && choice == 1 || its == house && reply == 1) {
                n[2] = 1;
            }
        }
        int one = what == 0 ? house : other;
        int gain = (what == 0 ? choice : reply) * 3;
        for (int j = 0; j < w.jumpers.size(); j++) {
            int v = w.jumpers.get(j)[1];
            if (w.windows.get(v)[0] == one && netAt(v) != NONE && force(j) <= carries(netAt(v))) {
                gain += 2;
            }
        }
        w = kept;
        return gain;
    }

    int rests(int h, int o) {
        int bits = 0;
        for (int a = 0; a < 2; a++) {
            for (int b = 0; b < 2; b++) {
                if (gain(h, o, 1 - a, b, 0) <= gain(h, o, a, b, 0) && gain(h, o, a, 1 - b, 1) <= gain(h, o, a, b, 1)) {
                    bits += 1 << (2 * a + b);
                }
            }
        }
        return bits;
    }

    // ---- cats ----

    static final int[][] FALLS = new int[5000][10];
    static final int[][] FIRST = new int[5000][10];

    static {
        for (int cats = 1; cats < 10; cats++) {
            for (int n = 1; n < 200; n++) {
                FALLS[n][cats] = Integer.MAX_VALUE;
                for (int x = 1; x <= n; x++) {
                    boolean can = cats > 1 || x == 1;
                    int gone = cats > 1 ? FALLS[x - 1][cats - 1] : 0;
                    int v = 1 + Math.max(gone, FALLS[n - x][cats]);
                    if (can && v < FALLS[n][cats]) {
                        FALLS[n][cats] = v;
                        FIRST[n][cats] = x;
                    }
                }
            }
        }
    }

    static int sought(int falls, int cats) {
        return falls == 0 || cats == 0 ? 0 : sought(falls - 1, cats - 1) + 1 + sought(falls - 1, cats);
    }

    // ---- what was seen ----

    int seenRefused(int slot) {
        if (!in(slot, 0, 3) || none()) {
            return -2;
        }
        if (slots[slot] == null) {
            return -6;
        }
        long[] s = slots[slot];
        if (s.length % 3 != 0) {
            return -2;
        }
        for (int i = 0; i < s.length; i += 3) {
            if (s[i] < 0 || s[i] >= w.nets.size() || s[i + 1] < 0 || s[i + 2] != 0 && s[i + 2] != 1) {
                return -2;
            }
        }
        return 0;
    }

    int firstOdd(int slot, int wet) {
        long[] s = slots[slot];
        for (int i = 0; i < s.length; i += 3) {
            int n = (int) s[i];
            boolean held = s[i + 1] <= carries(n, window(n), crew(n), (wet >> n & 1) == 1, 0);
            if (held != (s[i + 2] == 1)) {
                return i / 3;
            }
        }
        return NONE;
    }

    List<Integer> seenWays(int slot) {
        List<Integer> all = new ArrayList<>();
        for (int wet = 0; wet < 1 << w.nets.size(); wet++) {
            if (firstOdd(slot, wet) == NONE) {
                all.add(wet);
            }
        }
        return all;
    }

    int sure(int slot, int what) {
        List<Integer> all = seenWays(slot);
        if (all.isEmpty()) {
            return NONE;
        }
        int bits = 0;
        for (int n = 0; n < w.nets.size(); n++) {
            int at = n;
            if (all.stream().allMatch(v -> (v >> at & 1) == 1 - what)) {
                bits |= 1 << n;
            }
        }
        return bits;
    }

    int wetBits() {
        int bits = 0;
        for (int n = 0; n < w.nets.size(); n++) {
            bits |= w.nets.get(n)[2] << n;
        }
        return bits;
    }

    // ---- shares ----

    int corners(int house) {
        int n = 0;
        for (int[] m : w.men) {
            n += m[2] != NONE && (house == NONE || m[0] == house) ? 1 : 0;
        }
        return n;
    }

    private int orders;
    private int added;
    private Map<Integer, Integer> worth;

    int fair(int net, int house, int what) {
        orders = 0;
        added = 0;
        worth = new HashMap<>();
        order(net, house, 0);
        java.math.BigInteger g = java.math.BigInteger.valueOf(added).gcd(java.math.BigInteger.valueOf(orders));
        return (what == 0 ? added : orders) / g.intValue();
    }

    private int worth(int net, int set) {
        return worth.computeIfAbsent(set, s -> most(net, window(net), s));
    }

    private void order(int net, int house, int there) {
        if (there == (1 << w.houses) - 1) {
            orders++;
            return;
        }
        for (int h = 0; h < w.houses; h++) {
            if ((there >> h & 1) == 0) {
                int before = orders;
                order(net, house, there | 1 << h);
                if (h == house) {
                    added += (orders - before) * (worth(net, there | 1 << h) - worth(net, there));
                }
            }
        }
    }

    // ---- nights ----

    int nightHeld;
    int nightLost;

    void night(long seed, int n) {
        World kept = w;
        w = w.copy();
        nightHeld = 0;
        nightLost = NONE;
        java.math.BigInteger x = java.math.BigInteger.valueOf(seed);
        for (int i = 0; i < n && !w.jumpers.isEmpty(); i++) {
            x = x.multiply(java.math.BigInteger.valueOf(1103515245)).add(java.math.BigInteger.valueOf(12345))
                    .mod(java.math.BigInteger.valueOf(2147483648L));
            int j = (int) (x.longValue() / 65536 % w.jumpers.size());
            int net = netAt(w.jumpers.get(j)[1]);
            boolean held = net != NONE && fall(net, force(j)) == NONE;
            nightHeld += held ? 1 : 0;
            if (!held && nightLost == NONE) {
                nightLost = i;
            }
        }
        w = kept;
    }
}
