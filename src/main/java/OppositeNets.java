import java.util.Arrays;

/** Nets of the opposite house: see DOC.md for what each method promises. */
public final class OppositeNets {
    public static final int NONE = -1;

    private static final int NO_SUCH = -2;
    private static final int BELOW_ZERO = -3;
    private static final int FAULTY = -4;
    private static final int NOT_NOW = -5;
    private static final int NOTHING = -6;
    private static final int BEYOND = -7;
    private static final int UNLIKE = -8;
    private static final int NO_SUCH_MAN = -1000;

    private static final int MOST_BYTES = 1400;
    private static final int MOST_HOUSES = 4;
    private static final int MOST_STOREYS = 6;
    private static final int MOST_OF_A_KIND = 9;
    private static final int MOST_NETS = 2;
    private static final int MOST_JUMPS = 60;
    private static final int MOST_NUMBERS = 60;
    private static final int MOST_IN_A_ROW = 999;
    private static final int MOST_SEED = 2000000000;
    private static final int MOST_SUM = 1000000;
    private static final int CORNERS = 4;
    private static final int IMAGES = 3;
    private static final int SLOTS = 4;
    private static final int FEWEST_MEN = 4;

    private final byte[] tape = new byte[MOST_BYTES];
    private int taped;
    private final Street street = new Street();
    private final Street draft = new Street();
    private final Reader reader = new Reader(tape, draft);
    private final Street[] images = new Street[IMAGES];
    private final Slot[] slots = new Slot[SLOTS];
    private final Rings rings = new Rings(street);
    private final Guard guard = new Guard(street, rings);
    private final Alarms alarms = new Alarms(street);
    private final Nights nights = new Nights(street);
    private final Witness witness = new Witness(street);

    public OppositeNets() {
        for (int i = 0; i < SLOTS; i++) {
            slots[i] = new Slot();
        }
    }

    // ---- the tape and the street ----

    public int feed(int a, int b, int c, int d, int e) {
        if (taped + 20 > MOST_BYTES) {
            return NONE;
        }
        putNumber(a);
        putNumber(b);
        putNumber(c);
        putNumber(d);
        putNumber(e);
        return taped;
    }

    private void putNumber(int v) {
        for (int shift = 24; shift >= 0 && taped < MOST_BYTES; shift -= 8) {
            tape[taped] = (byte) (v >> shift);
            taped++;
        }
    }

    public int end(int n) {
        if (n < 0 || n > taped) {
            return NONE;
        }
        taped = n;
        return n;
    }

    public int street() {
        reader.readStreet(taped);
        taped = 0;
        if (reader.fault != 0) {
            return FAULTY;
        }
        street.copyFrom(draft);
        return street.lines;
    }

    public int fault(int what) {
        if (what == 0) {
            return reader.fault;
        }
        return what == 1 ? reader.place : NONE;
    }

    // ---- what there is ----

    public int window(int window, int what) {
        if (!street.hasWindow(window)) {
            return NO_SUCH;
        }
        switch (what) {
            case 0: return street.house[window];
            case 1: return street.storey[window];
            case 2: return street.netAt[window];
            default: return NO_SUCH;
        }
    }

    public int man(int man, int what) {
        if (!street.hasMan(man)) {
            return NO_SUCH;
        }
        switch (what) {
            case 0: return street.men.house[man];
            case 1: return street.men.strength[man];
            case 2: return street.men.net[man];
            case 3: return street.men.corner[man];
            default: return NO_SUCH;
        }
    }

    public int net(int net, int what) {
        if (!street.hasNet(net)) {
            return NO_SUCH;
        }
        switch (what) {
            case 0: return street.nets.window[net];
            case 1: return street.nets.wears[net];
            case 2: return street.nets.wet[net];
            case 3: return street.needOf(net);
            case 4: return street.carriedNow(net);
            default: return NO_SUCH;
        }
    }

    public int corner(int net, int corner, int what) {
        if (!street.hasCorner(net, corner)) {
            return NO_SUCH;
        }
        switch (what) {
            case 0: return street.nets.knots[net * CORNERS + corner];
            case 1: return street.nets.who[net * CORNERS + corner];
            case 2: return street.holdNow(net, corner);
            default: return NO_SUCH;
        }
    }

    public int jumper(int jumper, int what) {
        if (!street.hasJumper(jumper)) {
            return NO_SUCH;
        }
        switch (what) {
            case 0: return street.weight[jumper];
            case 1: return street.from[jumper];
            case 2: return street.forceOf(jumper);
            default: return NO_SUCH;
        }
    }

    public int quarrel(int man, int other) {
        if (!street.hasTwoMen(man, other)) {
            return NO_SUCH;
        }
        return street.men.quarrelOf(man, other);
    }

    public int feud(int house, int other) {
        if (!street.hasTwoHouses(house, other)) {
            return NO_SUCH;
        }
        return street.feuds[house * MOST_HOUSES + other];
    }

    public int will(int man, int window) {
        if (!street.hasMan(man) || !street.hasWindow(window)) {
            return NO_SUCH;
        }
        return street.willHold(man, window) ? 1 : 0;
    }

    // ---- what holds ----

    public int gives(int net, int force) {
        if (!street.hasNet(net) || force < 0) {
            return NO_SUCH;
        }
        return force <= street.carriedNow(net) ? NONE : street.weakestCorner(net);
    }

    public int held(int jumper) {
        if (!street.hasJumper(jumper)) {
            return NO_SUCH;
        }
        int net = street.netBelow(jumper);
        return net != NONE && street.forceOf(jumper) <= street.carriedNow(net) ? 1 : 0;
    }

    public int heaviest(int net) {
        if (!street.hasNet(net)) {
            return NO_SUCH;
        }
        return street.carriedNow(net) / Math.max(1, street.storeyOf(net));
    }

    public int highest(int net, int weight) {
        if (!street.hasNet(net) || weight < 1 || weight > 99) {
            return NO_SUCH;
        }
        return Math.min(MOST_STOREYS, street.carriedNow(net) / weight);
    }

    // ---- jumps ----

    public int jump(int jumper) {
        if (!street.hasJumper(jumper)) {
            return NO_SUCH;
        }
        int net = street.netBelow(jumper);
        if (net == NONE || street.jumps.count >= MOST_JUMPS) {
            return NOT_NOW;
        }
        street.jumps.keep(jumper, street.nets.knots, net * CORNERS);
        street.measureLeft();
        int gave = street.fallInto(net, street.forceOf(jumper));
        street.jumps.close(gave);
        return gave == NONE ? 1 : 0;
    }

    public int undo() {
        if (!street.isThere()) {
            return NO_SUCH;
        }
        int i = street.jumps.count - 1;
        if (i < 0) {
            return NOT_NOW;
        }
        int net = street.netBelow(street.jumps.jumper[i]);
        if (net != NONE) {
            System.arraycopy(street.jumps.knots, i * CORNERS, street.nets.knots, net * CORNERS, CORNERS);
        }
        street.jumps.count = i;
        return i;
    }

    public int led(int i, int what) {
        if (!street.isThere() || what < 0 || what > 2) {
            return NO_SUCH;
        }
        if (i < 0 || i >= street.jumps.count) {
            return NONE;
        }
        if (what == 0) {
            return street.jumps.jumper[i];
        }
        int gave = street.jumps.gave[i];
        if (what == 1) {
            return gave == NONE ? 1 : 0;
        }
        return gave;
    }

    public int lasts(int net, int weight) {
        if (!street.hasNet(net) || weight < 1 || weight > 99) {
            return NO_SUCH;
        }
        return nights.jumpsHeld(net, weight * street.storeyOf(net));
    }

    // ---- where men stand ----

    public int stand(int man, int net, int corner) {
        if (!street.hasMan(man)) {
            return NO_SUCH;
        }
        int before = street.placeOf(man);
        if (net == NONE) {
            street.takeAway(man);
            return before;
        }
        if (!street.hasCorner(net, corner)) {
            return NO_SUCH;
        }
        int there = street.nets.who[net * CORNERS + corner];
        if (there != NONE && there != man) {
            return NO_SUCH;
        }
        street.takeAway(man);
        street.putAt(man, net, corner);
        return before;
    }

    public int change(int man, int other) {
        if (!street.hasTwoMen(man, other)) {
            return NO_SUCH;
        }
        street.swapPlaces(man, other);
        return 0;
    }

    public int best(int net) {
        int refused = standingRefused(net);
        if (refused != 0) {
            return refused;
        }
        rings.prepare(net, street.nets.window[net]);
        return rings.mostCarried();
    }

    private int standingRefused(int net) {
        if (!street.hasNet(net)) {
            return NO_SUCH;
        }
        return street.men.count < FEWEST_MEN ? NOTHING : 0;
    }

    public int post(int net, int corner) {
        if (!street.hasCorner(net, corner)) {
            return NO_SUCH;
        }
        int refused = standingRefused(net);
        if (refused != 0) {
            return refused;
        }
        rings.prepare(net, street.nets.window[net]);
        return Rings.manOf(rings.firstBest(), corner);
    }

    public int rows(int net, int n) {
        if (n < 0) {
            return NO_SUCH;
        }
        int refused = standingRefused(net);
        if (refused != 0) {
            return refused;
        }
        rings.prepare(net, street.nets.window[net]);
        return rings.rowsCarrying(n);
    }

    public int safe() {
        if (!street.isThere()) {
            return NO_SUCH;
        }
        guard.seek();
        return guard.quarrels;
    }

    public int placed(int net, int corner) {
        if (!street.hasCorner(net, corner)) {
            return NO_SUCH;
        }
        guard.seek();
        int row = net == 0 ? guard.firstRow : guard.secondRow;
        return row == NONE ? NONE : Rings.manOf(row, corner);
    }

    public int ways() {
        if (!street.isThere()) {
            return NO_SUCH;
        }
        guard.seek();
        return guard.rowCount;
    }

    public int quarrels() {
        if (!street.isThere()) {
            return NO_SUCH;
        }
        int sum = 0;
        for (int net = 0; net < street.nets.count; net++) {
            for (int c = 0; c < CORNERS; c++) {
                sum += street.quarrelBehind(net, c);
            }
        }
        return sum;
    }

    public int where(int net, int what) {
        if (what < 0 || what > 1) {
            return NO_SUCH;
        }
        int refused = standingRefused(net);
        if (refused != 0) {
            return refused;
        }
        int window = NONE;
        int most = -1;
        for (int w = 0; w < street.windows; w++) {
            if (street.hasOtherNet(w, net)) {
                continue;
            }
            rings.prepare(net, w);
            int n = street.jumpersHeldAt(w, rings.mostCarried());
            if (n > most) {
                most = n;
                window = w;
            }
        }
        return what == 0 ? window : most;
    }

    // ---- which quarrels, which men ----

    public int peace(int net) {
        if (!street.hasNet(net)) {
            return NO_SUCH;
        }
        int made = pairsToMakeUp(net);
        return made == NONE ? NONE : Integer.bitCount(made);
    }

    public int mends(int net) {
        if (!street.hasNet(net)) {
            return NO_SUCH;
        }
        return pairsToMakeUp(net);
    }

    private int pairsToMakeUp(int net) {
        int need = street.needOf(net);
        int wet = street.nets.wet[net];
        int found = NONE;
        for (int made = 0; made < 16; made++) {
            boolean fewer = found == NONE || Integer.bitCount(made) < Integer.bitCount(found);
            if (fewer && street.carriedIf(net, wet, made) >= need) {
                found = made;
            }
        }
        return found;
    }

    public int harm(int man) {
        return street.hasMan(man) ? harmOf(man) : NO_SUCH_MAN;
    }

    private int harmOf(int man) {
        int net = street.men.net[man];
        int corner = street.men.corner[man];
        if (net == NONE) {
            return 0;
        }
        int now = street.allCarry();
        street.takeAway(man);
        int then = street.allCarry();
        street.putAt(man, net, corner);
        return now - then;
    }

    public int key() {
        if (!street.isThere()) {
            return NO_SUCH;
        }
        int found = NONE;
        int most = 0;
        for (int m = 0; m < street.men.count; m++) {
            int h = harmOf(m);
            if (found == NONE || h > most) {
                found = m;
                most = h;
            }
        }
        return found;
    }

    public int helps() {
        if (!street.isThere()) {
            return NO_SUCH;
        }
        int found = NONE;
        int most = street.allCarry();
        for (int m = 0; m < street.men.count; m++) {
            if (street.men.net[m] != NONE) {
                continue;
            }
            for (int place = 0; place < street.nets.count * CORNERS; place++) {
                int all = carriedWith(m, place);
                if (all > most) {
                    most = all;
                    found = 100 * m + 10 * (place / CORNERS) + place % CORNERS;
                }
            }
        }
        return found;
    }

    private int carriedWith(int man, int place) {
        if (street.nets.who[place] != NONE) {
            return 0;
        }
        street.putAt(man, place / CORNERS, place % CORNERS);
        int all = street.allCarry();
        street.takeAway(man);
        return all;
    }

    // ---- roads ----

    public int alarm(int house, int other) {
        if (!street.hasHouse(house) || !street.hasHouse(other)) {
            return NO_SUCH;
        }
        alarms.measure();
        return alarms.minutesOf(house, other);
    }

    public int route(int house, int other, int i) {
        if (!street.hasHouse(house) || !street.hasHouse(other)) {
            return NO_SUCH;
        }
        alarms.measure();
        return alarms.houseOnWay(house, other, i);
    }

    public int last(int house) {
        if (!street.hasHouse(house)) {
            return NO_SUCH;
        }
        alarms.measure();
        return alarms.tillAllHear(house);
    }

    public int middle() {
        if (!street.isThere()) {
            return NO_SUCH;
        }
        alarms.measure();
        int found = NONE;
        int fewest = 0;
        for (int h = 0; h < street.houses; h++) {
            int m = alarms.tillAllHear(h);
            if (m != NONE && (found == NONE || m < fewest)) {
                found = h;
                fewest = m;
            }
        }
        return found;
    }

    // ---- wetting as a game ----

    public int game(int house, int other, int choice, int reply, int what) {
        if (!street.hasTwoHouses(house, other) || !isBit(choice) || !isBit(reply) || !isBit(what)) {
            return NO_SUCH;
        }
        return what == 0 ? gainOf(house, choice, reply) : gainOf(other, reply, choice);
    }

    private static boolean isBit(int v) {
        return v == 0 || v == 1;
    }

    private int gainOf(int house, int own, int others) {
        int gain = own == 1 ? 3 : 0;
        for (int j = 0; j < street.jumpers; j++) {
            int net = street.netBelow(j);
            if (net == NONE || street.house[street.from[j]] != house) {
                continue;
            }
            int wet = others == 1 ? 1 : street.nets.wet[net];
            if (street.forceOf(j) <= street.carriedIf(net, wet, 0)) {
                gain += 2;
            }
        }
        return gain;
    }

    public int rests(int house, int other) {
        if (!street.hasTwoHouses(house, other)) {
            return NO_SUCH;
        }
        int bits = 0;
        for (int a = 0; a < 2; a++) {
            for (int b = 0; b < 2; b++) {
                boolean first = gainOf(house, 1 - a, b) <= gainOf(house, a, b);
                boolean second = gainOf(other, 1 - b, a) <= gainOf(other, b, a);
                if (first && second) {
                    bits |= 1 << (2 * a + b);
                }
            }
        }
        return bits;
    }

    // ---- cats ----

    public int tests(int n, int cats) {
        if (n < 0 || n > 99 || cats < 1 || cats > 9) {
            return NO_SUCH;
        }
        return fewestFalls(n, cats);
    }

    private static int fewestFalls(int n, int cats) {
        int falls = 0;
        while (falls < n && storeysFound(falls, cats) < n) {
            falls++;
        }
        return falls;
    }

    /** As many storeys as there are ways to choose 1 .. cats of the falls: those at which a cat is gone. */
    private static int storeysFound(int falls, int cats) {
        long sum = 0;
        long choose = 1;
        for (int k = 1; k <= cats && k <= falls; k++) {
            choose = choose * (falls - k + 1) / k;
            sum += choose;
        }
        return (int) Math.min(sum, 1000000L);
    }

    public int sought(int falls, int cats) {
        if (falls < 0 || falls > 12 || cats < 1 || cats > 9) {
            return NO_SUCH;
        }
        return storeysFound(falls, cats);
    }

    public int firstFall(int n, int cats) {
        if (n < 1 || n > 99 || cats < 1 || cats > 9) {
            return NO_SUCH;
        }
        int above = storeysFound(fewestFalls(n, cats) - 1, cats);
        return Math.max(1, n - above);
    }

    // ---- what was seen ----

    public int seen(int slot) {
        int refused = seenRefused(slot);
        if (refused != 0) {
            return refused;
        }
        witness.weigh(slots[slot]);
        return witness.waysLeft;
    }

    private int seenRefused(int slot) {
        if (!isSlot(slot) || !street.isThere()) {
            return NO_SUCH;
        }
        if (slots[slot].width == NONE) {
            return NOTHING;
        }
        return witness.understands(slots[slot]) ? 0 : NO_SUCH;
    }

    private static boolean isSlot(int slot) {
        return slot >= 0 && slot < SLOTS;
    }

    public int sure(int slot, int what) {
        if (!isBit(what)) {
            return NO_SUCH;
        }
        int refused = seenRefused(slot);
        if (refused != 0) {
            return refused;
        }
        witness.weigh(slots[slot]);
        if (witness.waysLeft == 0) {
            return NONE;
        }
        return what == 0 ? witness.alwaysWet : witness.alwaysDry;
    }

    public int odd(int slot) {
        int refused = seenRefused(slot);
        if (refused != 0) {
            return refused;
        }
        return witness.firstOdd(slots[slot]);
    }

    // ---- shares ----

    public int corners(int house) {
        if (!street.hasHouse(house)) {
            return NO_SUCH;
        }
        return street.cornersOf(house);
    }

    public int pays(int house, int sum) {
        if (!street.hasHouse(house) || sum < 0 || sum > MOST_SUM) {
            return NO_SUCH;
        }
        int all = 0;
        for (int h = 0; h < street.houses; h++) {
            all += street.cornersOf(h);
        }
        return all == 0 ? NONE : sum * street.cornersOf(house) / all;
    }

    public int fair(int net, int house, int what) {
        if (!street.hasNet(net) || !street.hasHouse(house) || !isBit(what)) {
            return NO_SUCH;
        }
        rings.prepare(net, street.nets.window[net]);
        rings.sumByHouses();
        int above = rings.addedInAllOrders(house);
        int below = factorial(street.houses);
        int common = Math.max(1, greatestCommon(above, below));
        return what == 0 ? above / common : below / common;
    }

    private static int factorial(int n) {
        int product = 1;
        for (int i = 2; i <= n; i++) {
            product *= i;
        }
        return product;
    }

    private static int greatestCommon(int a, int b) {
        int x = a;
        int y = b;
        for (int i = 0; i < 64 && y > 0; i++) {
            int rest = x % y;
            x = y;
            y = rest;
        }
        return x;
    }

    public int without(int net, int house) {
        if (!street.hasNet(net) || !street.hasHouse(house)) {
            return NO_SUCH;
        }
        rings.prepare(net, street.nets.window[net]);
        rings.sumByHouses();
        int all = (1 << street.houses) - 1;
        return rings.worthOf(all & ~(1 << house));
    }

    // ---- what is made otherwise ----

    public int mend(int net, int corner, int n) {
        if (!street.hasCorner(net, corner) || n < 0 || n > 99) {
            return NO_SUCH;
        }
        int was = street.nets.knots[net * CORNERS + corner];
        street.nets.knots[net * CORNERS + corner] = n;
        return was;
    }

    public int wet(int net, int is) {
        if (!street.hasNet(net) || !isBit(is)) {
            return NO_SUCH;
        }
        int was = street.nets.wet[net];
        street.nets.wet[net] = is;
        return was;
    }

    public int anger(int man, int other, int n) {
        if (!street.hasTwoMen(man, other) || n < 0 || n > 9) {
            return NO_SUCH;
        }
        int was = street.men.quarrelOf(man, other);
        street.men.setQuarrel(man, other, n);
        return was;
    }

    public int truce(int house, int other, int is) {
        if (!street.hasTwoHouses(house, other) || !isBit(is)) {
            return NO_SUCH;
        }
        int was = street.feuds[house * MOST_HOUSES + other];
        street.setFeud(house, other, is);
        return was;
    }

    // ---- nights ----

    public int night(int seed, int n, int what) {
        if (!canDraw(seed, n) || !isBit(what)) {
            return NO_SUCH;
        }
        if (street.jumpers == 0) {
            return what == 0 ? 0 : NONE;
        }
        nights.pass(seed, n);
        return what == 0 ? nights.heldCount : nights.firstLost;
    }

    private boolean canDraw(int seed, int n) {
        return street.isThere() && seed >= 0 && seed <= MOST_SEED && n >= 1 && n <= MOST_JUMPS;
    }

    public int years(int seed, int m, int n) {
        if (!canDraw(seed, n) || m < 1 || m > 20) {
            return NO_SUCH;
        }
        if (street.jumpers == 0) {
            return m;
        }
        int good = 0;
        for (int i = 0; i < m; i++) {
            nights.pass((long) seed + i, n);
            if (nights.firstLost == NONE) {
                good++;
            }
        }
        return good;
    }

    // ---- counts, images, slots ----

    public int count(int what) {
        switch (what) {
            case 0: return street.houses;
            case 1: return street.storeys;
            case 2: return street.windows;
            case 3: return street.men.count;
            case 4: return street.nets.count;
            case 5: return street.jumpers;
            case 6: return street.jumps.count;
            case 7: return street.lines;
            case 8: return taped;
            case 9: return slotsInUse();
            default: return NONE;
        }
    }

    private int slotsInUse() {
        int n = 0;
        for (int i = 0; i < SLOTS; i++) {
            if (slots[i].width != NONE) {
                n++;
            }
        }
        return n;
    }

    public int image(int k) {
        if (k < 0 || k >= IMAGES) {
            return NO_SUCH;
        }
        Street kept = images[k];
        if (kept == null) {
            kept = new Street();
            images[k] = kept;
        }
        kept.copyFrom(street);
        return 0;
    }

    public int back(int k) {
        if (k < 0 || k >= IMAGES) {
            return NO_SUCH;
        }
        Street kept = images[k];
        if (kept == null) {
            return NOTHING;
        }
        street.copyFrom(kept);
        return 0;
    }

    public int row(int slot, int width, int n) {
        if (!isSlot(slot) || width < 0 || width > 3 || n > MOST_NUMBERS) {
            return NO_SUCH;
        }
        if (n < 0) {
            return BELOW_ZERO;
        }
        slots[slot].begin(width, n);
        return 0;
    }

    public int write(int slot, int i, long v) {
        if (!isSlot(slot)) {
            return NO_SUCH;
        }
        Slot s = slots[slot];
        if (s.width == NONE) {
            return NOTHING;
        }
        if (i < 0 || i >= s.length) {
            return BEYOND;
        }
        s.numbers[i] = Slot.cut(v, s.width);
        return 0;
    }

    public int paste(int slot, int i, int to, int k, int n) {
        if (!isSlot(slot) || !isSlot(to)) {
            return NO_SUCH;
        }
        Slot from = slots[slot];
        Slot into = slots[to];
        if (from.width == NONE || into.width == NONE) {
            return NOTHING;
        }
        if (from.width != into.width) {
            return UNLIKE;
        }
        if (!from.has(i, n) || !into.has(k, n)) {
            return BEYOND;
        }
        System.arraycopy(from.numbers, i, into.numbers, k, n);
        return 0;
    }

    // ---- what the class is made of ----

    private static final class Men {
        int count;
        final int[] house = new int[MOST_OF_A_KIND];
        final int[] strength = new int[MOST_OF_A_KIND];
        final int[] net = new int[MOST_OF_A_KIND];
        final int[] corner = new int[MOST_OF_A_KIND];
        final int[] quarrels = new int[MOST_OF_A_KIND * MOST_OF_A_KIND];

        void clear() {
            count = 0;
            Arrays.fill(quarrels, 0);
        }

        void copyFrom(Men m) {
            count = m.count;
            System.arraycopy(m.house, 0, house, 0, count);
            System.arraycopy(m.strength, 0, strength, 0, count);
            System.arraycopy(m.net, 0, net, 0, count);
            System.arraycopy(m.corner, 0, corner, 0, count);
            System.arraycopy(m.quarrels, 0, quarrels, 0, quarrels.length);
        }

        void hire(int from, int power) {
            if (count < MOST_OF_A_KIND) {
                house[count] = from;
                strength[count] = power;
                net[count] = NONE;
                corner[count] = NONE;
                count++;
            }
        }

        int quarrelOf(int a, int b) {
            return quarrels[a * MOST_OF_A_KIND + b];
        }

        void setQuarrel(int a, int b, int n) {
            quarrels[a * MOST_OF_A_KIND + b] = n;
            quarrels[b * MOST_OF_A_KIND + a] = n;
        }
    }

    private static final class Nets {
        int count;
        final int[] window = new int[MOST_NETS];
        final int[] wears = new int[MOST_NETS];
        final int[] wet = new int[MOST_NETS];
        final int[] knots = new int[MOST_NETS * CORNERS];
        final int[] who = new int[MOST_NETS * CORNERS];

        void clear() {
            count = 0;
            Arrays.fill(who, NONE);
        }

        void copyFrom(Nets n) {
            count = n.count;
            System.arraycopy(n.window, 0, window, 0, count);
            System.arraycopy(n.wears, 0, wears, 0, count);
            System.arraycopy(n.wet, 0, wet, 0, count);
            System.arraycopy(n.knots, 0, knots, 0, knots.length);
            System.arraycopy(n.who, 0, who, 0, who.length);
        }

        /** What a knot is good for: half, cut, where the net is wet. */
        int knotIf(int net, int corner, int isWet) {
            int knot = knots[net * CORNERS + corner];
            return isWet == 1 ? knot / 2 : knot;
        }

        void wearDown(int net, int storey) {
            int wear = wears[net] * storey;
            for (int i = net * CORNERS; i < net * CORNERS + CORNERS; i++) {
                knots[i] = Math.max(0, knots[i] - wear);
            }
        }
    }

    private static final class Jumps {
        int count;
        final int[] jumper = new int[MOST_JUMPS];
        final int[] gave = new int[MOST_JUMPS];
        final int[] knots = new int[MOST_JUMPS * CORNERS];

        void copyFrom(Jumps j) {
            count = j.count;
            System.arraycopy(j.jumper, 0, jumper, 0, count);
            System.arraycopy(j.gave, 0, gave, 0, count);
            System.arraycopy(j.knots, 0, knots, 0, count * CORNERS);
        }

        void keep(int who, int[] before, int from) {
            if (count < MOST_JUMPS) {
                jumper[count] = who;
                System.arraycopy(before, from, knots, count * CORNERS, CORNERS);
            }
        }

        void close(int corner) {
            if (count < MOST_JUMPS) {
                gave[count] = corner;
                count++;
            }
        }
    }

    private static final class Street {
        int houses;
        int storeys;
        int lines;
        int windows;
        final int[] house = new int[MOST_OF_A_KIND];
        final int[] storey = new int[MOST_OF_A_KIND];
        final int[] netAt = new int[MOST_OF_A_KIND];
        int jumpers;
        final int[] weight = new int[MOST_OF_A_KIND];
        final int[] from = new int[MOST_OF_A_KIND];
        final int[] feuds = new int[MOST_HOUSES * MOST_HOUSES];
        final int[] roads = new int[MOST_HOUSES * MOST_HOUSES];
        final Men men = new Men();
        final Nets nets = new Nets();
        final Jumps jumps = new Jumps();
        final int[] left = new int[MOST_NETS * CORNERS];

        void clear() {
            houses = 0;
            storeys = 0;
            lines = 0;
            windows = 0;
            jumpers = 0;
            Arrays.fill(feuds, 0);
            Arrays.fill(roads, 0);
            men.clear();
            nets.clear();
            jumps.count = 0;
        }

        void copyFrom(Street s) {
            houses = s.houses;
            storeys = s.storeys;
            lines = s.lines;
            windows = s.windows;
            jumpers = s.jumpers;
            System.arraycopy(s.house, 0, house, 0, windows);
            System.arraycopy(s.storey, 0, storey, 0, windows);
            System.arraycopy(s.netAt, 0, netAt, 0, windows);
            System.arraycopy(s.weight, 0, weight, 0, jumpers);
            System.arraycopy(s.from, 0, from, 0, jumpers);
            System.arraycopy(s.feuds, 0, feuds, 0, feuds.length);
            System.arraycopy(s.roads, 0, roads, 0, roads.length);
            men.copyFrom(s.men);
            nets.copyFrom(s.nets);
            jumps.copyFrom(s.jumps);
        }

        boolean isThere() {
            return lines > 0;
        }

        boolean hasHouse(int h) {
            return h >= 0 && h < houses;
        }

        boolean hasTwoHouses(int h, int o) {
            return hasHouse(h) && hasHouse(o) && h != o;
        }

        boolean hasWindow(int w) {
            return w >= 0 && w < windows;
        }

        boolean hasMan(int m) {
            return m >= 0 && m < men.count;
        }

        boolean hasTwoMen(int m, int o) {
            return hasMan(m) && hasMan(o) && m != o;
        }

        boolean hasNet(int n) {
            return n >= 0 && n < nets.count;
        }

        boolean hasCorner(int n, int c) {
            return hasNet(n) && c >= 0 && c < CORNERS;
        }

        boolean hasJumper(int j) {
            return j >= 0 && j < jumpers;
        }

        boolean hasOtherNet(int window, int net) {
            return netAt[window] != NONE && netAt[window] != net;
        }

        int netBelow(int jumper) {
            return netAt[from[jumper]];
        }

        int forceOf(int jumper) {
            return weight[jumper] * storey[from[jumper]];
        }

        int storeyOf(int net) {
            return storey[nets.window[net]];
        }

        int needOf(int net) {
            int need = 0;
            for (int j = 0; j < jumpers; j++) {
                if (from[j] == nets.window[net]) {
                    need = Math.max(need, forceOf(j));
                }
            }
            return need;
        }

        int jumpersHeldAt(int window, int carried) {
            int n = 0;
            for (int j = 0; j < jumpers; j++) {
                if (from[j] == window && forceOf(j) <= carried) {
                    n++;
                }
            }
            return n;
        }

        boolean willHold(int man, int window) {
            int his = men.house[man];
            return his != house[window] && feuds[his * MOST_HOUSES + house[window]] == 0;
        }

        /** The quarrel of who stand at a corner and at the next one. */
        int quarrelBehind(int net, int corner) {
            int a = nets.who[net * CORNERS + corner];
            int b = nets.who[net * CORNERS + (corner + 1) % CORNERS];
            return a == NONE || b == NONE ? 0 : men.quarrels[a * MOST_OF_A_KIND + b];
        }

        /** What a man has left at a corner by his quarrels, but for the pairs told by the bits of made; 0: none holds. */
        int leftAt(int net, int corner, int made) {
            int who = nets.who[net * CORNERS + corner];
            if (who == NONE || !willHold(who, nets.window[net])) {
                return 0;
            }
            int before = (corner + CORNERS - 1) % CORNERS;
            int sum = 0;
            if ((made >> corner & 1) == 0) {
                sum += quarrelBehind(net, corner);
            }
            if ((made >> before & 1) == 0) {
                sum += quarrelBehind(net, before);
            }
            return Math.max(0, men.strength[who] - 3 * sum);
        }

        /** HOLD, were the net wet or dry, and were the pairs told by the bits of made at peace. */
        int holdIf(int net, int corner, int isWet, int made) {
            return Math.min(leftAt(net, corner, made), nets.knotIf(net, corner, isWet));
        }

        int holdNow(int net, int corner) {
            return holdIf(net, corner, nets.wet[net], 0);
        }

        int carriedIf(int net, int isWet, int made) {
            int least = holdIf(net, 0, isWet, made);
            for (int c = 1; c < CORNERS && least > 0; c++) {
                least = Math.min(least, holdIf(net, c, isWet, made));
            }
            return CORNERS * least;
        }

        int carriedNow(int net) {
            return carriedIf(net, nets.wet[net], 0);
        }

        int allCarry() {
            int sum = 0;
            for (int n = 0; n < nets.count; n++) {
                sum += carriedIf(n, nets.wet[n], 0);
            }
            return sum;
        }

        int weakestCorner(int net) {
            int found = 0;
            int least = holdNow(net, 0);
            for (int c = 1; c < CORNERS; c++) {
                int hold = holdNow(net, c);
                if (hold < least) {
                    least = hold;
                    found = c;
                }
            }
            return found;
        }

        /** Jumps change knots alone, so what the men have left is measured once ahead of them. */
        void measureLeft() {
            for (int i = 0; i < nets.count * CORNERS; i++) {
                left[i] = leftAt(i / CORNERS, i % CORNERS, 0);
            }
        }

        /** HOLD by what measureLeft() kept of the men, and by the knot as it is now. */
        int holdAsMeasured(int net, int corner) {
            return Math.min(left[net * CORNERS + corner], nets.knotIf(net, corner, nets.wet[net]));
        }

        /** Somebody comes down: the net wears, or a corner gives, which is answered (NONE: held). */
        int fallInto(int net, int force) {
            int weakest = 0;
            int least = holdAsMeasured(net, 0);
            for (int c = 1; c < CORNERS; c++) {
                int hold = holdAsMeasured(net, c);
                if (hold < least) {
                    least = hold;
                    weakest = c;
                }
            }
            if (force > CORNERS * least) {
                nets.knots[net * CORNERS + weakest] = 0;
                return weakest;
            }
            nets.wearDown(net, storeyOf(net));
            return NONE;
        }

        int placeOf(int man) {
            return men.net[man] == NONE ? NONE : 10 * men.net[man] + men.corner[man];
        }

        void takeAway(int man) {
            if (men.net[man] != NONE) {
                nets.who[men.net[man] * CORNERS + men.corner[man]] = NONE;
            }
            men.net[man] = NONE;
            men.corner[man] = NONE;
        }

        void putAt(int man, int net, int corner) {
            nets.who[net * CORNERS + corner] = man;
            men.net[man] = net;
            men.corner[man] = corner;
        }

        void swapPlaces(int man, int other) {
            int net = men.net[man];
            int corner = men.corner[man];
            int othersNet = men.net[other];
            int othersCorner = men.corner[other];
            takeAway(man);
            takeAway(other);
            if (othersNet != NONE) {
                putAt(man, othersNet, othersCorner);
            }
            if (net != NONE) {
                putAt(other, net, corner);
            }
        }

        int cornersOf(int house) {
            int n = 0;
            for (int m = 0; m < men.count; m++) {
                if (men.house[m] == house && men.net[m] != NONE) {
                    n++;
                }
            }
            return n;
        }

        void setFeud(int h, int o, int is) {
            feuds[h * MOST_HOUSES + o] = is;
            feuds[o * MOST_HOUSES + h] = is;
        }

        void setRoad(int h, int o, int minutes) {
            roads[h * MOST_HOUSES + o] = minutes;
            roads[o * MOST_HOUSES + h] = minutes;
        }

        void addWindow(int h, int s) {
            if (windows < MOST_OF_A_KIND) {
                house[windows] = h;
                storey[windows] = s;
                netAt[windows] = NONE;
                windows++;
            }
        }

        void addJumper(int w, int window) {
            if (jumpers < MOST_OF_A_KIND) {
                weight[jumpers] = w;
                from[jumpers] = window;
                jumpers++;
            }
        }
    }

    /** Reads a street off the tape, token by token; behind its first fault it reads no more. */
    private static final class Reader {
        static final int AT_END = 0;
        static final int WORD = 1;
        static final int NUMBER = 2;
        static final int SIGN = 3;
        static final int OTHER = 4;
        static final int MISPLACED = 1;
        static final int NOT_AS_SAID = 2;
        static final int TOO_MANY = 3;
        static final int BEYOND_ALL_BOUNDS = 1000;

        final byte[] text;
        final Street told;
        int length;
        int at;
        int kind;
        int start;
        int value;
        int numberPlace;
        int fault;
        int place = NONE;

        Reader(byte[] text, Street told) {
            this.text = text;
            this.told = told;
        }

        void readStreet(int n) {
            length = Math.min(n, text.length);
            at = 0;
            fault = 0;
            place = NONE;
            told.clear();
            readToken();
            for (int i = 0; i < MOST_BYTES && fault == 0 && kind != AT_END; i++) {
                readLine();
            }
        }

        void readToken() {
            while (at < length && (text[at] == 32 || text[at] == 10)) {
                at++;
            }
            start = at;
            value = 0;
            kind = kindAt(at);
            if (kind == AT_END) {
                return;
            }
            boolean runs = kind == WORD || kind == NUMBER;
            do {
                if (kind == NUMBER) {
                    value = Math.min(BEYOND_ALL_BOUNDS, value * 10 + text[at] - '0');
                }
                at++;
            } while (runs && at < length && kindAt(at) == kind);
        }

        int kindAt(int i) {
            if (i >= length) {
                return AT_END;
            }
            int b = text[i];
            if (b >= 'a' && b <= 'z') {
                return WORD;
            }
            if (b >= '0' && b <= '9') {
                return NUMBER;
            }
            return b == ';' ? SIGN : OTHER;
        }

        void refuse(int what, int where) {
            if (fault == 0) {
                fault = what;
                place = where;
            }
        }

        boolean isWord(String w) {
            if (kind != WORD || at - start != w.length()) {
                return false;
            }
            for (int i = 0; i < w.length(); i++) {
                if (text[start + i] != w.charAt(i)) {
                    return false;
                }
            }
            return true;
        }

        void needWord(String w) {
            if (fault == 0 && isWord(w)) {
                readToken();
            } else {
                refuse(MISPLACED, start);
            }
        }

        int needNumber(int low, int high) {
            int read = value;
            numberPlace = start;
            if (kind == NUMBER && (read < low || read > high)) {
                refuse(NOT_AS_SAID, start);
            }
            if (fault == 0 && kind == NUMBER) {
                readToken();
                return read;
            }
            refuse(MISPLACED, start);
            return low;
        }

        /** Refuses the number read last, if what the document says of it is not so. */
        void needAsSaid(boolean so) {
            if (!so) {
                refuse(NOT_AS_SAID, numberPlace);
            }
        }

        void readLine() {
            if (told.lines == 0) {
                readHead();
            } else if (isWord("window")) {
                readWindow();
            } else if (isWord("man")) {
                readMan();
            } else if (isWord("net")) {
                readNet();
            } else if (isWord("stands")) {
                readStands();
            } else if (isWord("quarrel")) {
                readQuarrel();
            } else if (isWord("feud")) {
                readFeud();
            } else if (isWord("jumper")) {
                readJumper();
            } else if (isWord("road")) {
                readRoad();
            } else {
                refuse(MISPLACED, start);
            }
            needSign();
            told.lines++;
        }

        void needSign() {
            if (fault == 0 && kind == SIGN) {
                readToken();
            } else {
                refuse(MISPLACED, start);
            }
        }

        void readHead() {
            needWord("street");
            needWord("houses");
            told.houses = needNumber(2, MOST_HOUSES);
            needWord("storeys");
            told.storeys = needNumber(1, MOST_STOREYS);
        }

        /** Passes the word of a line that tells one thing more, unless there are as many as may be. */
        void needRoom(int have, int most) {
            if (have >= most) {
                refuse(TOO_MANY, start);
            } else {
                readToken();
            }
        }

        void readWindow() {
            needRoom(told.windows, MOST_OF_A_KIND);
            int h = needNumber(0, told.houses - 1);
            int s = needNumber(1, told.storeys);
            if (fault == 0) {
                told.addWindow(h, s);
            }
        }

        void readMan() {
            needRoom(told.men.count, MOST_OF_A_KIND);
            int h = needNumber(0, told.houses - 1);
            needWord("strength");
            int s = needNumber(1, 60);
            if (fault == 0) {
                told.men.hire(h, s);
            }
        }

        void readNet() {
            int net = told.nets.count;
            needRoom(net, MOST_NETS);
            needWord("at");
            int w = needNumber(0, told.windows - 1);
            if (fault == 0) {
                needAsSaid(told.netAt[w] == NONE);
            }
            needWord("knots");
            for (int c = 0; c < CORNERS; c++) {
                int knot = needNumber(1, 99);
                if (fault == 0) {
                    told.nets.knots[net * CORNERS + c] = knot;
                }
            }
            needWord("wears");
            int wears = needNumber(0, 9);
            boolean wet = fault == 0 && isWord("wet");
            if (wet) {
                readToken();
            }
            if (fault == 0) {
                told.nets.window[net] = w;
                told.nets.wears[net] = wears;
                told.nets.wet[net] = wet ? 1 : 0;
                told.netAt[w] = net;
                told.nets.count++;
            }
        }

        void readStands() {
            readToken();
            int m = needNumber(0, told.men.count - 1);
            if (fault == 0) {
                needAsSaid(told.men.net[m] == NONE);
            }
            needWord("at");
            int n = needNumber(0, told.nets.count - 1);
            int c = needNumber(0, CORNERS - 1);
            if (fault == 0) {
                needAsSaid(told.nets.who[n * CORNERS + c] == NONE);
            }
            if (fault == 0) {
                told.putAt(m, n, c);
            }
        }

        void readQuarrel() {
            readToken();
            int m = needNumber(0, told.men.count - 1);
            int o = needNumber(0, told.men.count - 1);
            if (fault == 0) {
                needAsSaid(m != o);
            }
            int n = needNumber(1, 9);
            if (fault == 0) {
                told.men.setQuarrel(m, o, n);
            }
        }

        void readFeud() {
            readToken();
            int h = needNumber(0, told.houses - 1);
            int o = needNumber(0, told.houses - 1);
            if (fault == 0) {
                needAsSaid(h != o);
            }
            if (fault == 0) {
                told.setFeud(h, o, 1);
            }
        }

        void readJumper() {
            needRoom(told.jumpers, MOST_OF_A_KIND);
            needWord("weight");
            int n = needNumber(1, 99);
            needWord("at");
            int w = needNumber(0, told.windows - 1);
            if (fault == 0) {
                told.addJumper(n, w);
            }
        }

        void readRoad() {
            readToken();
            int h = needNumber(0, told.houses - 1);
            int o = needNumber(0, told.houses - 1);
            if (fault == 0) {
                needAsSaid(h != o);
            }
            int n = needNumber(1, 99);
            if (fault == 0) {
                told.setRoad(h, o, n);
            }
        }
    }

    private static final class Slot {
        int width = NONE;
        int length;
        final long[] numbers = new long[MOST_NUMBERS];

        void begin(int newWidth, int n) {
            width = newWidth;
            length = n;
            Arrays.fill(numbers, 0L);
        }

        static long cut(long v, int width) {
            switch (width) {
                case 0: return (byte) v;
                case 1: return (short) v;
                case 2: return (int) v;
                default: return v;
            }
        }

        boolean has(int i, int n) {
            return i >= 0 && n >= 0 && i <= length && n <= length - i;
        }
    }

    /**
     * Rows of four men at a net. What it carries is four times the least of its knots and of what the men
     * have left by their quarrels with both neighbours, so a row turned round or mirrored carries and quarrels
     * alike: one of each eight is looked at, the least (the least man first, the second below the fourth).
     */
    private static final class Rings {
        static final int ALL = 378;
        static final int ALIKE = 8;

        final Street street;
        final int[] rows = new int[ALL];
        final int[] able = new int[MOST_OF_A_KIND];
        final int[] most = new int[1 << MOST_HOUSES];
        int leastKnot;
        int carried;

        Rings(Street street) {
            this.street = street;
            int n = 0;
            for (int a = 0; a < MOST_OF_A_KIND; a++) {
                for (int b = a + 1; b < MOST_OF_A_KIND; b++) {
                    for (int c = a + 1; c < MOST_OF_A_KIND; c++) {
                        for (int d = b + 1; d < MOST_OF_A_KIND; d++) {
                            if (c != b && c != d && n < ALL) {
                                rows[n] = a << 12 | b << 8 | c << 4 | d;
                                n++;
                            }
                        }
                    }
                }
            }
        }

        /** Four bits a man, the first corner's highest: so the first row is the least number. */
        static int manOf(int row, int corner) {
            return row >> (12 - 4 * corner) & 15;
        }

        void prepare(int net, int window) {
            for (int m = 0; m < street.men.count; m++) {
                able[m] = street.willHold(m, window) ? street.men.strength[m] : 0;
            }
            leastKnot = 99;
            for (int c = 0; c < CORNERS; c++) {
                leastKnot = Math.min(leastKnot, street.nets.knotIf(net, c, street.nets.wet[net]));
            }
        }

        boolean isThere(int row) {
            return (row >> 4 & 15) < street.men.count && (row & 15) < street.men.count;
        }

        int carriedBy(int row) {
            int a = manOf(row, 0);
            int b = manOf(row, 1);
            int c = manOf(row, 2);
            int d = manOf(row, 3);
            int ab = street.men.quarrelOf(a, b);
            int bc = street.men.quarrelOf(b, c);
            int cd = street.men.quarrelOf(c, d);
            int da = street.men.quarrelOf(d, a);
            int left = Math.min(able[a] - 3 * (da + ab), able[b] - 3 * (ab + bc));
            int right = Math.min(able[c] - 3 * (bc + cd), able[d] - 3 * (cd + da));
            return CORNERS * Math.max(0, Math.min(leastKnot, Math.min(left, right)));
        }

        int quarrelsIn(int row) {
            int sum = 0;
            for (int c = 0; c < CORNERS; c++) {
                sum += street.men.quarrelOf(manOf(row, c), manOf(row, (c + 1) % CORNERS));
            }
            return sum;
        }

        static int menIn(int row) {
            return 1 << manOf(row, 0) | 1 << manOf(row, 1) | 1 << manOf(row, 2) | 1 << manOf(row, 3);
        }

        int firstBest() {
            int found = NONE;
            carried = 0;
            for (int i = 0; i < ALL; i++) {
                if (isThere(rows[i])) {
                    int v = carriedBy(rows[i]);
                    if (found == NONE || v > carried) {
                        found = rows[i];
                        carried = v;
                    }
                }
            }
            return found;
        }

        int mostCarried() {
            firstBest();
            return carried;
        }

        int rowsCarrying(int n) {
            int count = 0;
            for (int i = 0; i < ALL; i++) {
                if (isThere(rows[i]) && carriedBy(rows[i]) >= n) {
                    count += ALIKE;
                }
            }
            return count;
        }

        int housesIn(int row) {
            int bits = 0;
            for (int c = 0; c < CORNERS; c++) {
                bits |= 1 << street.men.house[manOf(row, c)];
            }
            return bits;
        }

        /** Keeps, for each set of houses, the most that is carried by men of just these. */
        void sumByHouses() {
            Arrays.fill(most, 0);
            for (int i = 0; i < ALL; i++) {
                if (isThere(rows[i])) {
                    int set = housesIn(rows[i]);
                    most[set] = Math.max(most[set], carriedBy(rows[i]));
                }
            }
        }

        int worthOf(int set) {
            int worth = 0;
            for (int part = 0; part < most.length; part++) {
                if ((part & ~set) == 0) {
                    worth = Math.max(worth, most[part]);
                }
            }
            return worth;
        }

        int addedInAllOrders(int house) {
            int own = 1 << house;
            int sum = 0;
            for (int set = 0; set < 1 << street.houses; set++) {
                if ((set & own) == 0) {
                    int ahead = Integer.bitCount(set);
                    int orders = factorial(ahead) * factorial(street.houses - 1 - ahead);
                    sum += orders * (worthOf(set | own) - worthOf(set));
                }
            }
            return sum;
        }
    }

    /**
     * Seeks how a night is safe. For each net, by sets of men as bits: in how many rows they carry its need,
     * and the quietest of these; then sets for both nets that have no man in common.
     */
    private static final class Guard {
        static final int SETS = 1 << MOST_OF_A_KIND;

        final Street street;
        final Rings rings;
        final int[] count = new int[MOST_NETS * SETS];
        final int[] least = new int[MOST_NETS * SETS];
        final int[] first = new int[MOST_NETS * SETS];
        int quarrels;
        int rowCount;
        int firstRow;
        int secondRow;

        Guard(Street street, Rings rings) {
            this.street = street;
            this.rings = rings;
        }

        void seek() {
            Arrays.fill(count, 0);
            gather(0);
            gather(1);
            quarrels = NONE;
            rowCount = 0;
            firstRow = NONE;
            secondRow = NONE;
            int all = (1 << street.men.count) - 1;
            for (int set = 0; set <= all; set++) {
                if (count[set] > 0) {
                    pairUp(set, all & ~set);
                }
            }
        }

        void gather(int net) {
            int base = net * SETS;
            int need = street.hasNet(net) ? street.needOf(net) : 0;
            if (need == 0) {
                leaveEmpty(base);
                return;
            }
            rings.prepare(net, street.nets.window[net]);
            for (int i = 0; i < Rings.ALL; i++) {
                int row = rings.rows[i];
                if (rings.isThere(row) && rings.carriedBy(row) >= need) {
                    addRow(base + Rings.menIn(row), row, rings.quarrelsIn(row));
                }
            }
        }

        /** Nobody is the one crew of a net into which nobody jumps. */
        void leaveEmpty(int base) {
            count[base] = 1;
            least[base] = 0;
            first[base] = NONE;
        }

        void addRow(int crew, int row, int quarrelling) {
            if (count[crew] == 0 || quarrelling < least[crew]) {
                least[crew] = quarrelling;
                first[crew] = row;
            }
            count[crew] += Rings.ALIKE;
        }

        /** Goes down through all sets that are part of the rest, to the empty one. */
        void pairUp(int set, int rest) {
            int part = rest;
            for (int i = 0; i < SETS; i++) {
                if (count[SETS + part] > 0) {
                    rowCount += count[set] * count[SETS + part];
                    weighPair(set, SETS + part);
                }
                if (part == 0) {
                    break;
                }
                part = (part - 1) & rest;
            }
        }

        void weighPair(int one, int other) {
            int sum = least[one] + least[other];
            if (quarrels == NONE || sum < quarrels || sum == quarrels && comesFirst(first[one], first[other])) {
                quarrels = sum;
                firstRow = first[one];
                secondRow = first[other];
            }
        }

        boolean comesFirst(int one, int other) {
            return one < firstRow || one == firstRow && other < secondRow;
        }
    }

    private static final class Alarms {
        static final int FAR = 1000000;

        final Street street;
        final int[] minutes = new int[MOST_HOUSES * MOST_HOUSES];

        Alarms(Street street) {
            this.street = street;
        }

        void measure() {
            for (int i = 0; i < minutes.length; i++) {
                boolean itself = i / MOST_HOUSES == i % MOST_HOUSES;
                int road = street.roads[i];
                minutes[i] = itself ? 0 : road == 0 ? FAR : road;
            }
            for (int by = 0; by < MOST_HOUSES; by++) {
                for (int a = 0; a < MOST_HOUSES; a++) {
                    for (int b = 0; b < MOST_HOUSES; b++) {
                        int round = minutes[a * MOST_HOUSES + by] + minutes[by * MOST_HOUSES + b];
                        minutes[a * MOST_HOUSES + b] = Math.min(minutes[a * MOST_HOUSES + b], round);
                    }
                }
            }
        }

        int minutesOf(int a, int b) {
            int m = minutes[a * MOST_HOUSES + b];
            return m >= FAR ? NONE : m;
        }

        int houseOnWay(int a, int b, int i) {
            if (i < 0 || i >= MOST_HOUSES || minutesOf(a, b) == NONE) {
                return NONE;
            }
            int here = a;
            for (int step = 0; step < i && here != NONE; step++) {
                here = stepTo(here, b);
            }
            return here;
        }

        /** The least house next on a way of least minutes: by it the row is the least too. */
        int stepTo(int here, int goal) {
            if (here == goal) {
                return NONE;
            }
            for (int h = 0; h < street.houses; h++) {
                int road = street.roads[here * MOST_HOUSES + h];
                int left = minutes[h * MOST_HOUSES + goal];
                if (road > 0 && road + left == minutes[here * MOST_HOUSES + goal]) {
                    return h;
                }
            }
            return NONE;
        }

        int tillAllHear(int house) {
            int most = 0;
            for (int h = 0; h < street.houses; h++) {
                int m = minutesOf(house, h);
                if (m == NONE) {
                    return NONE;
                }
                most = Math.max(most, m);
            }
            return most;
        }
    }

    /** Jumps that are only thought of: the knots are as they were behind them. */
    private static final class Nights {
        final Street street;
        final int[] knots = new int[MOST_NETS * CORNERS];
        int heldCount;
        int firstLost;

        Nights(Street street) {
            this.street = street;
        }

        void begin() {
            street.measureLeft();
            System.arraycopy(street.nets.knots, 0, knots, 0, knots.length);
        }

        void giveKnotsBack() {
            System.arraycopy(knots, 0, street.nets.knots, 0, knots.length);
        }

        void pass(long seed, int n) {
            begin();
            heldCount = 0;
            firstLost = NONE;
            long x = seed;
            for (int i = 0; i < n && street.jumpers > 0; i++) {
                x = (1103515245L * x + 12345L) % 2147483648L;
                int jumper = (int) (x / 65536L % street.jumpers);
                int net = street.netBelow(jumper);
                if (net != NONE && street.fallInto(net, street.forceOf(jumper)) == NONE) {
                    heldCount++;
                } else if (firstLost == NONE) {
                    firstLost = i;
                }
            }
            giveKnotsBack();
        }

        int jumpsHeld(int net, int force) {
            if (street.nets.wears[net] == 0) {
                return force <= street.carriedNow(net) ? MOST_IN_A_ROW : 0;
            }
            begin();
            int n = 0;
            while (n < MOST_IN_A_ROW && street.fallInto(net, force) == NONE) {
                n++;
            }
            giveKnotsBack();
            return n;
        }
    }

    /** What was seen of nets, three numbers each: a net, a force, whether it held. */
    private static final class Witness {
        static final int EACH = 3;

        final Street street;
        final int[] carried = new int[2 * MOST_NETS];
        int waysLeft;
        int alwaysWet;
        int alwaysDry;

        Witness(Street street) {
            this.street = street;
        }

        boolean understands(Slot s) {
            if (s.length % EACH != 0) {
                return false;
            }
            for (int i = 0; i + 2 < s.length; i += EACH) {
                long net = s.numbers[i];
                long held = s.numbers[i + 2];
                if (net < 0 || net >= street.nets.count || s.numbers[i + 1] < 0 || held < 0 || held > 1) {
                    return false;
                }
            }
            return true;
        }

        void weigh(Slot s) {
            measure();
            int all = (1 << street.nets.count) - 1;
            waysLeft = 0;
            alwaysWet = all;
            alwaysDry = all;
            for (int wet = 0; wet <= all; wet++) {
                if (firstUnlike(s, wet) == NONE) {
                    waysLeft++;
                    alwaysWet &= wet;
                    alwaysDry &= ~wet;
                }
            }
        }

        void measure() {
            for (int n = 0; n < street.nets.count; n++) {
                carried[2 * n] = street.carriedIf(n, 0, 0);
                carried[2 * n + 1] = street.carriedIf(n, 1, 0);
            }
        }

        int firstOdd(Slot s) {
            measure();
            int wet = 0;
            for (int n = 0; n < street.nets.count; n++) {
                wet |= street.nets.wet[n] << n;
            }
            return firstUnlike(s, wet);
        }

        /** The first that can't have been seen, were the nets wet as the bits tell. */
        int firstUnlike(Slot s, int wet) {
            for (int i = 0; i + 2 < s.length; i += EACH) {
                int net = (int) s.numbers[i];
                boolean holds = s.numbers[i + 1] <= carried[2 * net + (wet >> net & 1)];
                if (holds != (s.numbers[i + 2] == 1)) {
                    return i / EACH;
                }
            }
            return NONE;
        }
    }
}
