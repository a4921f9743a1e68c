import java.util.Map;

/** Bounds of slots, of what was seen, of what is made otherwise, and of images: promises 46 to 48, 53 to 56, 59 to 64. */
public final class BoundsOfSlotsTest {
    private static final int NONE = OppositeNets.NONE;
    private static final int LEAST = Integer.MIN_VALUE;
    private static final int GREATEST = Integer.MAX_VALUE;
    private static final String TWO = "street houses 2 storeys 6; window 0 1; window 0 1; ";

    public static void main(String[] args) throws ReflectiveOperationException {
        Due.all(BoundsOfSlotsTest.class);
    }

    /** A net that carries 40 dry and 20 wet. */
    private static OppositeNets one() {
        return Due.told(Edge.four(1, 60, 10, 0));
    }

    /** Two such nets; they carry 40 and 36 dry, 20 and 16 wet. */
    private static OppositeNets two() {
        return Due.told(TWO + Edge.men(8, 60) + "net at 0 knots 10 10 10 10 wears 0; net at 1 knots 9 9 9 9 wears 0; "
                + Edge.stand(0, 0) + Edge.stand(1, 4));
    }

    /** A slot has a row of just these numbers. */
    private static void tell(OppositeNets x, int slot, int width, long... numbers) {
        Due.is("row", x.row(slot, width, numbers.length), 0);
        for (int i = 0; i < numbers.length; i++) {
            Due.is("write", x.write(slot, i, numbers[i]), 0);
        }
    }

    private static void seen(OppositeNets x, int due, long... numbers) {
        tell(x, 0, 3, numbers);
        Due.is("seen(0) of " + java.util.Arrays.toString(numbers), x.seen(0), due);
    }

    // ---- Promise 46: seen ----

    /** 46: "1 if it held .., 0 if not": FORCE on what a NET CARRIES wet and dry, and one above each. */
    static void seenBesideWhatItCarries() {
        OppositeNets x = one();
        seen(x, 2, 0, 0, 1);
        seen(x, 0, 0, 0, 0);
        seen(x, 2, 0, 20, 1);
        seen(x, 0, 0, 20, 0);
        seen(x, 1, 0, 21, 1);
        seen(x, 1, 0, 21, 0);
        seen(x, 1, 0, 40, 1);
        seen(x, 1, 0, 40, 0);
        seen(x, 0, 0, 41, 1);
        seen(x, 2, 0, 41, 0);
    }

    /** 46: "if it held as all stand": less by QUARRELS of each pair of CORNERS, on it and one above. */
    static void seenByWhatQuarrelsLeave() {
        for (int c = 0; c < 4; c++) {
            OppositeNets x = Due.told(Edge.four(1, 20, 99, 0) + "quarrel " + c + " " + (c + 1) % 4 + " 2;");
            seen(x, 2, 0, 56, 1);
            seen(x, 0, 0, 56, 0);
            seen(x, 0, 0, 57, 1);
            seen(x, 2, 0, 57, 0);
        }
    }

    /** 46: "in how many ways": of two NETS none to four; "(whatever is told)": wet as told or not. */
    static void seenFromNoWayToAll() {
        OppositeNets x = two();
        seen(x, 4, 0, 20, 1, 1, 16, 1);
        seen(x, 2, 0, 21, 1);
        seen(x, 1, 0, 21, 1, 1, 17, 0);
        seen(x, 1, 0, 21, 0, 1, 17, 1);
        seen(x, 0, 0, 21, 1, 0, 21, 0);
        x.wet(0, 1);
        x.wet(1, 1);
        seen(x, 1, 0, 21, 1, 1, 17, 1);
        seen(x, 4, 0, 20, 1);
    }

    /** 46: "so that all is so": of a row of 0 numbers all ways there are; of no NETS the one. */
    static void seenOfNoNumbers() {
        OppositeNets x = two();
        seen(x, 4);
        OppositeNets single = one();
        seen(single, 2);
        OppositeNets none = Due.told(TWO);
        seen(none, 1);
        Due.is("sure", none.sure(0, 0), 0);
        Due.is("odd", none.odd(0), NONE);
    }

    /** 46: "-2: .. not three each": 1, 2, 4, 5, 58, 59 numbers; 3, 6, 57 and 60 are. */
    static void seenNotThreeEach() {
        OppositeNets x = one();
        for (int n : new int[] {1, 2, 3, 4, 5, 6, 56, 57, 58, 59, 60}) {
            x.row(1, 0, n);
            Due.is(n + " numbers: seen", x.seen(1), n % 3 == 0 ? 0 : -2);
            Due.is(n + " numbers: sure", x.sure(1, 0), n % 3 == 0 ? NONE : -2);
            Due.is(n + " numbers: odd", x.odd(1), n % 3 == 0 ? 0 : -2);
        }
    }

    /** SLOTS: "at most 60", 46: "three numbers each": of twenty that were seen, the last one counts as the first does. */
    static void seenOfSixtyNumbers() {
        OppositeNets x = one();
        x.row(2, 1, 60);
        for (int i = 0; i < 60; i += 3) {
            x.write(2, i + 1, 20);
            x.write(2, i + 2, 1);
        }
        Due.is("all held by 20", x.seen(2), 2);
        x.write(2, 58, 21);
        Due.is("the last by 21", x.seen(2), 1);
        x.write(2, 59, 2);
        Due.is("the last number is neither 0 nor 1", x.seen(2), -2);
        x.write(2, 59, 1);
        x.write(2, 57, 1);
        Due.is("the last NET is none", x.seen(2), -2);
        x.write(2, 57, 0);
        x.write(2, 58, -1);
        Due.is("the last FORCE is below 0", x.seen(2), -2);
    }

    /** 46: "-2: .. a number is no NET": below 0, behind the last one, such as would wrap round; of one, two, none. */
    static void seenOfNoNet() {
        OppositeNets x = one();
        OppositeNets both = two();
        for (long net : new long[] {-1, 2, 256, 4294967296L, 4294967297L, Long.MIN_VALUE, Long.MAX_VALUE}) {
            seen(x, -2, net, 5, 1);
            seen(both, -2, net, 5, 1);
        }
        seen(x, -2, 1, 5, 1);
        seen(both, 4, 1, 5, 1);
        seen(Due.told(TWO), -2, 0, 0, 1);
    }

    /** 46: "-2: .. FORCE (below 0)": -1 and the least long; the greatest long is a FORCE, by which none holds. */
    static void seenOfNoForce() {
        OppositeNets x = one();
        seen(x, -2, 0, -1, 0);
        seen(x, -2, 0, Long.MIN_VALUE, 0);
        seen(x, 2, 0, Long.MAX_VALUE, 0);
        seen(x, 0, 0, Long.MAX_VALUE, 1);
        seen(x, 2, 0, 4294967296L + 20, 0);
        seen(x, 0, 0, 4294967296L + 20, 1);
        seen(x, 2, 0, 2147483648L, 0);
    }

    /** 46: "-2: .. 0 or 1": neither. */
    static void seenNeitherHeldNorNot() {
        OppositeNets x = one();
        for (long held : new long[] {-1, 2, 256, 257, 4294967296L, 4294967297L, Long.MIN_VALUE, Long.MAX_VALUE}) {
            seen(x, -2, 0, 5, held);
        }
    }

    /** 46: "a number is no NET" behind others that rule all out: -2, not 0. */
    static void seenAllNumbersAreAsked() {
        OppositeNets x = one();
        seen(x, -2, 0, 41, 1, 1, 5, 1);
        seen(x, -2, 0, 41, 1, 0, -1, 1);
        seen(x, -2, 0, 41, 1, 0, 5, 2);
    }

    /** 46: "-2: there is no such SLOT", with a STREET, with none; 47, 48: likewise. */
    static void seenOfNoSuchSlot() {
        OppositeNets x = one();
        for (int slot = 0; slot < 4; slot++) {
            tell(x, slot, 0, 0, 20, 1);
        }
        Edge.bounds("seen(?)", 0, 3, x::seen, 2, 2, -2);
        Edge.bounds("sure(?, 0)", 0, 3, v -> x.sure(v, 0), 0, 0, -2);
        Edge.bounds("odd(?)", 0, 3, x::odd, NONE, NONE, -2);
        OppositeNets none = new OppositeNets();
        Edge.refused("no STREET: seen(?)", 0, 3, none::seen, -2);
    }

    /** 46: "-2: .. no STREET"; it comes ahead of -6; 47, 48: likewise. */
    static void seenWithoutAStreet() {
        OppositeNets x = new OppositeNets();
        for (int slot = 0; slot < 4; slot++) {
            Due.is("seen(" + slot + ") of nothing", x.seen(slot), -2);
            Due.is("sure(" + slot + ", 1) of nothing", x.sure(slot, 1), -2);
            Due.is("odd(" + slot + ") of nothing", x.odd(slot), -2);
        }
        x.row(0, 0, 0);
        Due.is("seen of a row", x.seen(0), -2);
        Due.is("sure of a row", x.sure(0, 0), -2);
        Due.is("odd of a row", x.odd(0), -2);
    }

    /** 46: "-6: it has nothing"; 47, 48: likewise; another SLOT's row is none of its own. */
    static void seenOfNothing() {
        OppositeNets x = one();
        x.row(1, 0, 0);
        for (int slot = 0; slot < 4; slot++) {
            Due.is("seen(" + slot + ")", x.seen(slot), slot == 1 ? 2 : -6);
            Due.is("sure(" + slot + ", 0)", x.sure(slot, 0), slot == 1 ? 0 : -6);
            Due.is("odd(" + slot + ")", x.odd(slot), slot == 1 ? NONE : -6);
        }
    }

    // ---- Promise 47: sure ----

    /** 47: "NETS that are wet in all of these ways (what 0), dry in all (1), as bits": none, each, both. */
    static void sureOfNoneAndBoth() {
        OppositeNets x = two();
        long[][] rows = {{}, {0, 21, 0}, {0, 21, 1}, {1, 17, 0}, {1, 17, 1}, {0, 21, 0, 1, 17, 0}, {0, 21, 1, 1, 17, 1},
            {0, 21, 0, 1, 17, 1}};
        int[] wet = {0, 1, 0, 2, 0, 3, 0, 1};
        int[] dry = {0, 0, 1, 0, 2, 0, 3, 2};
        for (int i = 0; i < rows.length; i++) {
            tell(x, 0, 1, rows[i]);
            Due.is("row " + i + ": wet in all", x.sure(0, 0), wet[i]);
            Due.is("row " + i + ": dry in all", x.sure(0, 1), dry[i]);
        }
    }

    /** 47: "NONE: there are none": no way is left. */
    static void sureIfThereIsNoWay() {
        OppositeNets x = two();
        tell(x, 0, 0, 0, 41, 1);
        Due.is("what 0", x.sure(0, 0), NONE);
        Due.is("what 1", x.sure(0, 1), NONE);
        Due.is("seen", x.seen(0), 0);
    }

    /** 47: "-2 .. no such what": with a row, with nothing, with no way left. */
    static void sureOfNoSuchWhat() {
        OppositeNets x = one();
        tell(x, 0, 0, 0, 20, 1);
        tell(x, 1, 0, 0, 41, 1);
        Edge.refused("sure(0, ?)", 0, 1, v -> x.sure(0, v), -2);
        Edge.refused("no way: sure(1, ?)", 0, 1, v -> x.sure(1, v), -2);
        Edge.refused("nothing: sure(2, ?)", 0, 1, v -> x.sure(2, v), -2);
    }

    /** 47: "-2 .. likewise": a number that is none, not three each. */
    static void sureOfBadNumbers() {
        OppositeNets x = one();
        for (long[] row : new long[][] {{1, 5, 1}, {0, -1, 1}, {0, 5, 2}, {0, 5}, {0}, {0, 5, 1, 0}}) {
            tell(x, 0, 3, row);
            Due.is("sure(0, 0)", x.sure(0, 0), -2);
            Due.is("sure(0, 1)", x.sure(0, 1), -2);
            Due.is("odd(0)", x.odd(0), -2);
        }
    }

    // ---- Promise 48: odd ----

    /** 48: "The first of them (from 0) that is not so as NETS are": the first, the 20th; "NONE: all are". */
    static void oddFromTheFirstToTheLast() {
        OppositeNets x = one();
        x.row(3, 1, 60);
        for (int i = 0; i < 60; i += 3) {
            x.write(3, i + 1, 40);
            x.write(3, i + 2, 1);
        }
        Due.is("NONE: all are", x.odd(3), NONE);
        x.write(3, 58, 41);
        Due.is("the last", x.odd(3), 19);
        x.write(3, 31, 41);
        Due.is("two of them", x.odd(3), 10);
        x.wet(0, 1);
        Due.is("all, when it is wet", x.odd(3), 0);
        x.write(3, 2, 0);
        Due.is("but the first", x.odd(3), 1);
    }

    /** 48: "-2, -6 likewise": no such SLOT, no STREET, a bad number, not three each; a SLOT that has nothing. */
    static void oddLikewise() {
        OppositeNets x = one();
        Due.is("nothing", x.odd(0), -6);
        Edge.refused("odd(?)", 0, 3, x::odd, -2);
        for (long[] row : new long[][] {{1, 5, 1}, {-1, 5, 1}, {0, -1, 1}, {0, 5, 2}, {0, 5, -1}, {0, 5}, {0, 5, 1, 0}}) {
            tell(x, 0, 3, row);
            Due.is("odd(0) of " + java.util.Arrays.toString(row), x.odd(0), -2);
        }
        tell(x, 0, 3, 0, 20, 1);
        Due.is("odd(0)", x.odd(0), NONE);
        x.street();
        Due.is("no STREET", x.odd(0), -2);
    }

    // ---- Promise 53: mend ----

    /** 53: "n (0 .. 99)": on the bounds, and "-2" beyond them; "what it was". */
    static void mendBesideTheBounds() {
        OppositeNets x = one();
        Due.is("mend(0, 3, 0)", x.mend(0, 3, 0), 10);
        Due.is("mend(0, 3, 99)", x.mend(0, 3, 99), 0);
        Due.is("mend(0, 3, 1)", x.mend(0, 3, 1), 99);
        Edge.refused("mend(0, 3, ?)", 0, 99, v -> x.mend(0, 3, v), -2);
        Due.is("as it was", x.mend(0, 3, 98), 1);
        Due.is("the others too", x.mend(0, 2, 1), 10);
    }

    /** 53: "what it was" of each CORNER of each NET, all unlike. */
    static void mendOfEachCorner() {
        OppositeNets x = Due.told(TWO + "net at 0 knots 11 12 13 14 wears 0; net at 1 knots 21 22 23 24 wears 0;");
        for (int net = 0; net < 2; net++) {
            for (int c = 0; c < 4; c++) {
                Due.is("mend(" + net + ", " + c + ", 0)", x.mend(net, c, 0), 10 * net + 11 + c);
            }
        }
        for (int net = 0; net < 2; net++) {
            for (int c = 0; c < 4; c++) {
                Due.is("mend(" + net + ", " + c + ", 1)", x.mend(net, c, 1), 0);
            }
        }
    }

    /** 53: "-2: there are none such": a NET, a CORNER; and all stays as it was. */
    static void mendOfNone() {
        OppositeNets x = Edge.busy();
        Edge.stays("mend of none", x, () -> {
            Edge.refused("mend(?, 0, 5)", 0, 1, v -> x.mend(v, 0, 5), -2);
            Edge.refused("mend(0, ?, 5)", 0, 3, v -> x.mend(0, v, 5), -2);
            Edge.refused("mend(1, ?, 5)", 0, 3, v -> x.mend(1, v, 5), -2);
            Edge.refused("mend(1, 3, ?)", 0, 99, v -> x.mend(1, 3, v), -2);
        });
        Due.is("no STREET", new OppositeNets().mend(0, 0, 0), -2);
        OppositeNets y = one();
        Edge.refused("of one: mend(?, 0, 5)", 0, 0, v -> y.mend(v, 0, 5), -2);
    }

    // ---- Promise 54: wet ----

    /** 54: "wet (1) or dry (0)": "what it was"; "-2" beyond them, and all stays as it was. */
    static void wetBesideTheBounds() {
        OppositeNets x = one();
        Due.is("dry as told", x.wet(0, 1), 0);
        Due.is("wet", x.wet(0, 1), 1);
        Due.is("wet still", x.wet(0, 0), 1);
        Due.is("dry", x.wet(0, 0), 0);
        OppositeNets y = Edge.busy();
        Edge.stays("wet of none", y, () -> {
            Edge.refused("wet(0, ?)", 0, 1, v -> y.wet(0, v), -2);
            Edge.refused("wet(1, ?)", 0, 1, v -> y.wet(1, v), -2);
            Edge.refused("wet(?, 0)", 0, 1, v -> y.wet(v, 0), -2);
            Edge.refused("wet(?, 1)", 0, 1, v -> y.wet(v, 1), -2);
        });
        Edge.refused("of one: wet(?, 1)", 0, 0, v -> x.wet(v, 1), -2);
        Due.is("no STREET", new OppositeNets().wet(0, 0), -2);
    }

    // ---- Promise 55: anger ----

    /** 55: "n (0 .. 9)": on the bounds, and "-2" beyond them; "what it was", either way. */
    static void angerBesideTheBounds() {
        OppositeNets x = one();
        Due.is("anger(0, 3, 9)", x.anger(0, 3, 9), 0);
        Due.is("anger(3, 0, 0)", x.anger(3, 0, 0), 9);
        Due.is("anger(3, 0, 8)", x.anger(3, 0, 8), 0);
        Edge.refused("anger(0, 3, ?)", 0, 9, v -> x.anger(0, 3, v), -2);
        Due.is("as it was", x.anger(0, 3, 1), 8);
    }

    /** 55: "-2: there are none such, one twice", and all stays as it was. */
    static void angerOfNone() {
        OppositeNets x = Edge.busy();
        Edge.stays("anger of none", x, () -> {
            Edge.refused("anger(?, 0, 5)", 0, 4, v -> x.anger(v, 0, 5), -2);
            Edge.refused("anger(4, ?, 5)", 0, 4, v -> x.anger(4, v, 5), -2);
            Edge.refused("anger(1, 0, ?)", 0, 9, v -> x.anger(1, 0, v), -2);
            for (int m = -1; m <= 5; m++) {
                Due.is("anger(" + m + ", " + m + ", 5)", x.anger(m, m, 5), -2);
            }
        });
        OppositeNets nine = Edge.full();
        Edge.refused("of nine: anger(?, 0, 5)", 0, 8, v -> nine.anger(v, 0, 5), -2);
        Due.is("the last of nine", nine.anger(8, 7, 5), 9);
        Due.is("no STREET", new OppositeNets().anger(0, 1, 0), -2);
    }

    // ---- Promise 56: truce ----

    /** 56: "a feud (1) or none (0) from now on: whether they had", either way. */
    static void truceTellsWhetherTheyHad() {
        OppositeNets x = one();
        Due.is("none as told", x.truce(0, 1, 1), 0);
        Due.is("a feud", x.truce(1, 0, 1), 1);
        Due.is("a feud still", x.truce(1, 0, 0), 1);
        Due.is("none", x.truce(0, 1, 0), 0);
    }

    /** 56: "-2 likewise": none such, one twice, neither 0 nor 1; and all stays as it was. */
    static void truceOfNone() {
        OppositeNets x = Edge.busy();
        Edge.stays("truce of none", x, () -> {
            Edge.refused("truce(?, 0, 1)", 0, 2, v -> x.truce(v, 0, 1), -2);
            Edge.refused("truce(2, ?, 0)", 0, 2, v -> x.truce(2, v, 0), -2);
            Edge.refused("truce(1, 2, ?)", 0, 1, v -> x.truce(1, 2, v), -2);
            for (int h = -1; h <= 3; h++) {
                Due.is("truce(" + h + ", " + h + ", 1)", x.truce(h, h, 1), -2);
            }
        });
        OppositeNets four = Edge.full();
        Edge.refused("of four: truce(?, 2, 0)", 0, 3, v -> four.truce(v, 2, 0), -2);
        Due.is("the last of four", four.truce(3, 2, 0), 1);
        Due.is("no STREET", new OppositeNets().truce(0, 1, 0), -2);
    }

    // ---- Promise 59: count ----

    /** 59: "0 HOUSES .. 9 SLOTS that have a row": all are 0 of a new object; as many as there may be. */
    static void countFromNoneToAll() {
        OppositeNets none = new OppositeNets();
        OppositeNets full = Edge.full();
        full.feed(0, 0, 0, 0, 0);
        for (int slot = 0; slot < 4; slot++) {
            full.row(slot, slot, 60);
        }
        int lines = (int) Edge.fullText().chars().filter(b -> b == ';').count();
        int[] due = {4, 6, 9, 9, 2, 9, 0, lines, 20, 4};
        for (int what = 0; what < 10; what++) {
            Due.is("none: count(" + what + ")", none.count(what), 0);
            Due.is("all: count(" + what + ")", full.count(what), due[what]);
        }
    }

    /** 59: "9 SLOTS that have a row": a row of 0 numbers is one, a SLOT whose row is in place of another counts once. */
    static void countOfSlots() {
        OppositeNets x = new OppositeNets();
        x.row(3, 0, 0);
        Due.is("one, of 0 numbers", x.count(9), 1);
        x.row(3, 2, 60);
        Due.is("in place of another", x.count(9), 1);
        x.row(0, 0, 61);
        x.row(0, 0, -1);
        x.row(4, 0, 1);
        Due.is("those refused are none", x.count(9), 1);
        x.row(0, 0, 1);
        x.row(1, 0, 1);
        x.row(2, 0, 1);
        Due.is("all", x.count(9), 4);
    }

    /** 59: "8 bytes of the TAPE": none, 20, 1,400 and cut. */
    static void countOfBytes() {
        OppositeNets x = new OppositeNets();
        for (int i = 1; i <= 70; i++) {
            x.feed(0, 0, 0, 0, 0);
            Due.is("bytes", x.count(8), 20 * i);
        }
        x.end(1399);
        Due.is("cut", x.count(8), 1399);
        x.street();
        Due.is("read", x.count(8), 0);
    }

    /** 59: "NONE for others": below 0, above 9. */
    static void countOfOthers() {
        OppositeNets none = new OppositeNets();
        OppositeNets full = Edge.full();
        Edge.refused("none: count(?)", 0, 9, none::count, NONE);
        Edge.refused("all: count(?)", 0, 9, full::count, NONE);
    }

    // ---- Promises 60, 61: image, back ----

    private static void same(String when, Map<String, Integer> got, Map<String, Integer> due) {
        for (Map.Entry<String, Integer> e : due.entrySet()) {
            if (!e.getKey().matches("(seen|sure|odd|fault|count\\([89]).*")) {
                Due.is(when + ": " + e.getKey(), got.getOrDefault(e.getKey(), LEAST), e.getValue());
            }
        }
    }

    /** 60: "k (0 .. 2)": on the bounds; "-2: no such k", and nothing is kept by it. */
    static void imagesBesideTheBounds() {
        OppositeNets x = Edge.busy();
        Edge.stays("image of none", x, () -> Edge.refused("image(?)", 0, 2, x::image, -2));
        for (int k = 0; k < 3; k++) {
            Due.is("nothing is kept by those", x.back(k), -6);
        }
        Edge.bounds("image(?)", 0, 2, x::image, 0, 0, -2);
        Due.is("back(0)", x.back(0), 0);
        Due.is("back(1)", x.back(1), -6);
        Due.is("back(2)", x.back(2), 0);
    }

    /** 61: "-2: no such k", also when all have something; and all stays as it was. */
    static void backBesideTheBounds() {
        OppositeNets x = Edge.busy();
        for (int k = 0; k < 3; k++) {
            x.image(k);
        }
        x.mend(0, 0, 77);
        Edge.stays("back of none", x, () -> Edge.refused("back(?)", 0, 2, x::back, -2));
        OppositeNets none = new OppositeNets();
        Edge.refused("of nothing: back(?)", 0, 2, none::back, -2);
    }

    /** 61: "-6: it has nothing", and all stays as it was; another IMAGE is none of its own. */
    static void backOfNothing() {
        OppositeNets x = Edge.busy();
        x.image(1);
        x.mend(0, 0, 77);
        Edge.stays("back of nothing", x, () -> {
            Due.is("back(0)", x.back(0), -6);
            Due.is("back(2)", x.back(2), -6);
        });
        Due.is("back(1)", x.back(1), 0);
        Due.is("the knot", x.corner(0, 0, 0), 6);
    }

    /** 60: "keeps the STREET": of none it keeps that there is none; one that comes later is none of it. */
    static void imageOfNoStreet() {
        OppositeNets x = new OppositeNets();
        Due.is("image(0)", x.image(0), 0);
        Due.read(x, Due.STREET);
        x.jump(0);
        Due.is("back(0)", x.back(0), 0);
        for (int what = 0; what < 8; what++) {
            Due.is("count(" + what + ")", x.count(what), 0);
        }
        Due.is("no STREET", x.undo(), -2);
        Due.is("again", x.back(0), 0);
    }

    /** 60: "keeps the STREET": what is made otherwise behind it is none of it; 61: "It is as IMAGE k has it". */
    static void imageKeepsAllOfTheStreet() {
        OppositeNets x = Edge.busy();
        x.image(2);
        Map<String, Integer> kept = Edge.whole(x);
        x.mend(0, 1, 99);
        x.wet(1, 0);
        x.anger(3, 4, 9);
        x.truce(0, 1, 1);
        x.stand(2, 1, 2);
        x.change(0, 4);
        x.jump(1);
        x.undo();
        x.undo();
        Due.is("back(2)", x.back(2), 0);
        same("back", Edge.whole(x), kept);
    }

    /** 60: "keeps the STREET" as it is at the call: another text behind it, with fewer and with more, is none of it. */
    static void imageKeepsAllBehindAnotherText() {
        OppositeNets x = Edge.busy();
        x.image(0);
        Map<String, Integer> kept = Edge.whole(x);
        Due.read(x, "street houses 2 storeys 1;");
        x.image(1);
        Due.is("back(0)", x.back(0), 0);
        same("behind fewer", Edge.whole(x), kept);
        Due.is("back(1)", x.back(1), 0);
        Due.is("no WINDOWS", x.count(2), 0);
        Due.read(x, Edge.fullText());
        Due.is("back(1)", x.back(1), 0);
        Due.is("no MEN", x.count(3), 0);
        Due.is("no feud", x.feud(0, 1), 0);
        Due.is("no road", x.alarm(0, 1), NONE);
        Due.is("2 HOUSES", x.count(0), 2);
    }

    /** 60: "JUMPS too": none, and 60 with their knots. */
    static void imageKeepsJumps() {
        OppositeNets x = Due.told("street houses 2 storeys 1; window 0 1; " + Edge.men(4, 60)
                + "net at 0 knots 99 99 99 99 wears 1; " + Edge.stand(0, 0) + "jumper weight 1 at 0;");
        x.image(0);
        for (int i = 0; i < 60; i++) {
            x.jump(0);
        }
        x.image(1);
        Due.is("back(0)", x.back(0), 0);
        Due.is("no JUMPS", x.undo(), -5);
        Due.is("whole", x.corner(0, 0, 0), 99);
        Due.is("back(1)", x.back(1), 0);
        Due.is("60 JUMPS", x.count(6), 60);
        Due.is("no 61st", x.jump(0), -5);
        Due.is("the last one", x.led(59, 1), 1);
        for (int i = 59; i >= 0; i--) {
            Due.is("undo", x.undo(), i);
            Due.is("knot", x.corner(0, 3, 0), 99 - i);
        }
        Due.is("back(1) again", x.back(1), 0);
        Due.is("60 JUMPS again", x.count(6), 60);
    }

    /** 60: "JUMPS too": of each its JUMPER, what gave and the knots ahead of it, whatever JUMPS come behind the IMAGE. */
    static void imageKeepsEachJump() {
        OppositeNets x = Due.told(TWO + Edge.men(8, 5) + "net at 0 knots 11 12 13 14 wears 1; net at 1 knots 21 22 23 3 wears 2; "
                + Edge.stand(0, 0) + Edge.stand(1, 4) + "jumper weight 1 at 0; jumper weight 20 at 1;");
        x.jump(1);
        x.jump(0);
        x.image(0);
        x.undo();
        x.undo();
        x.jump(0);
        x.jump(0);
        x.jump(0);
        Due.is("back(0)", x.back(0), 0);
        Due.is("JUMPS", x.count(6), 2);
        Due.is("JUMPER of the first", x.led(0, 0), 1);
        Due.is("not held", x.led(0, 1), 0);
        Due.is("what gave", x.led(0, 2), 3);
        Due.is("JUMPER of the second", x.led(1, 0), 0);
        Due.is("held", x.led(1, 1), 1);
        x.undo();
        Due.is("a knot ahead of the second", x.corner(0, 0, 0), 11);
        Due.is("what gave is 0 still", x.corner(1, 3, 0), 0);
        x.undo();
        Due.is("a knot ahead of the first", x.corner(1, 3, 0), 3);
        Due.is("another knot ahead of the first", x.corner(1, 0, 0), 21);
    }

    /** 60: "IMAGE k (0 .. 2) keeps the STREET": in place of what it had; 61: going back leaves the others and itself. */
    static void imagesAreApart() {
        OppositeNets x = one();
        for (int k = 0; k < 3; k++) {
            x.mend(0, 0, k + 1);
            x.image(k);
        }
        x.mend(0, 0, 50);
        for (int round = 0; round < 2; round++) {
            for (int k = 2; k >= 0; k--) {
                Due.is("back(" + k + ")", x.back(k), 0);
                Due.is("knot of " + k, x.mend(0, 0, 60), k + 1);
            }
        }
        x.image(1);
        x.back(2);
        Due.is("knot of 2", x.corner(0, 0, 0), 3);
        x.back(1);
        Due.is("knot of 1, in place", x.corner(0, 0, 0), 60);
    }

    /** 60: "keeps the STREET, JUMPS too": not the TAPE, not the SLOTS; the latest FAULT is told still. */
    static void imageKeepsNothingElse() {
        OppositeNets x = Edge.busy();
        x.image(0);
        x.row(1, 0, 0);
        Due.read(x, "zz");
        x.feed(0, 0, 0, 0, 0);
        Due.is("back(0)", x.back(0), 0);
        Due.is("bytes", x.count(8), 20);
        Due.is("rows", x.count(9), 2);
        Due.is("FAULT", x.fault(0), 1);
        Due.is("place", x.fault(1), 0);
    }

    // ---- Promises 62 to 64: row, write, paste ----

    /** A net of four strong men with knots of 99: what it carries is told by the knot at its first corner. */
    private static OppositeNets scale() {
        return Due.told(Edge.four(1, 60, 99, 0));
    }

    /** Number i of a slot's row, if it is 0, 4, .. 240: it is put where a FORCE stands, and weighed. Uses slot 3. */
    private static int number(OppositeNets x, int slot, int i, int width) {
        x.row(3, width, 3);
        x.write(3, 2, 1);
        Due.is("paste of number " + i, x.paste(slot, i, 3, 1, 1), 0);
        int low = 0;
        int high = 60;
        while (low < high) {
            int knot = (low + high) / 2;
            x.mend(0, 0, knot);
            if (x.odd(3) == NONE) {
                high = knot;
            } else {
                low = knot + 1;
            }
        }
        return 4 * low;
    }

    private static void numbers(String when, OppositeNets x, int slot, int width, int... due) {
        for (int i = 0; i < due.length; i++) {
            Due.is(when + ": number " + i + " of " + slot, number(x, slot, i, width), due[i]);
        }
        Due.is(when + ": no number behind", x.write(slot, due.length, 4), -7);
    }

    /** A slot has 4, 8, .. as its numbers. */
    private static void counted(OppositeNets x, int slot, int width, int n) {
        x.row(slot, width, n);
        for (int i = 0; i < n; i++) {
            x.write(slot, i, 4 * (i + 1));
        }
    }

    /** 62: "A SLOT (0 .. 3)", "WIDTH (0 .. 3)", "n is above 60": on the bounds, and "-2" beyond them. */
    static void rowBesideTheBounds() {
        OppositeNets x = scale();
        Edge.bounds("row(?, 0, 1)", 0, 3, v -> x.row(v, 0, 1), 0, 0, -2);
        Edge.bounds("row(0, ?, 1)", 0, 3, v -> x.row(0, v, 1), 0, 0, -2);
        Due.is("row(0, 0, 0)", x.row(0, 0, 0), 0);
        Due.is("row(0, 0, 60)", x.row(0, 0, 60), 0);
        for (int n : new int[] {61, 62, 256, 65536 + 60, GREATEST}) {
            Due.is("row(0, 0, " + n + ")", x.row(0, 0, n), -2);
        }
        Due.is("it has 60 still", x.write(0, 59, 1), 0);
    }

    /** 62: "-3, and the SLOT stays: n is below 0": with a row, with nothing. */
    static void rowBelowZero() {
        OppositeNets x = scale();
        counted(x, 0, 1, 4);
        for (int n : new int[] {-1, -2, -256, LEAST}) {
            Due.is("row(0, 2, " + n + ")", x.row(0, 2, n), -3);
            Due.is("row(1, 2, " + n + ")", x.row(1, 2, n), -3);
        }
        numbers("the SLOT stays", x, 0, 1, 4, 8, 12, 16);
        Due.is("and has nothing still", x.write(1, 0, 0), -6);
    }

    /** 62: "-2: there is no such SLOT or WIDTH" is told ahead of "-3, .. n is below 0", where both fit. */
    static void rowOfNoneAheadOfBelowZero() {
        OppositeNets x = scale();
        Edge.refused("row(?, 0, -1)", 0, 3, v -> x.row(v, 0, -1), -2);
        Edge.refused("row(0, ?, -1)", 0, 3, v -> x.row(0, v, -1), -2);
        Due.is("row(4, 4, least)", x.row(4, 4, LEAST), -2);
    }

    /** 62: where "-2" is told, no such SLOT or WIDTH or n above 60, all stays as it was. */
    static void rowOfNoneLeavesAll() {
        OppositeNets x = scale();
        counted(x, 0, 1, 4);
        x.row(0, 1, 61);
        x.row(0, 4, 4);
        x.row(0, -1, 4);
        x.row(4, 1, 4);
        numbers("the SLOT stays", x, 0, 1, 4, 8, 12, 16);
        OppositeNets y = Edge.busy();
        Edge.stays("row of none", y, () -> {
            y.row(0, 1, 61);
            y.row(0, 4, 3);
            y.row(0, 1, -1);
            y.row(4, 1, 3);
            y.row(-1, 1, 3);
        });
    }

    /** 62: "all 0 (in place of another one)": longer, shorter, and anew; of another WIDTH. */
    static void rowInPlaceOfAnother() {
        OppositeNets x = scale();
        counted(x, 0, 1, 5);
        x.row(0, 1, 5);
        numbers("as long", x, 0, 1, 0, 0, 0, 0, 0);
        counted(x, 0, 1, 5);
        x.row(0, 1, 2);
        numbers("shorter", x, 0, 1, 0, 0);
        x.row(0, 2, 6);
        numbers("longer again, wider", x, 0, 2, 0, 0, 0, 0, 0, 0);
        x.row(0, 2, 0);
        numbers("none", x, 0, 2);
    }

    /** 62: "A SLOT (0 .. 3) has a row": each its own. */
    static void rowsAreApart() {
        OppositeNets x = scale();
        counted(x, 0, 1, 3);
        x.row(1, 1, 4);
        x.write(1, 0, 40);
        numbers("of 0", x, 0, 1, 4, 8, 12);
        numbers("of 1", x, 1, 1, 40, 0, 0, 0);
        Due.is("of 2", x.write(2, 0, 0), -6);
    }

    /** 63: "-7: there is no such number": below 0, behind the last one, of 60, of none; and the row stays. */
    static void writeBeyondTheRow() {
        OppositeNets x = scale();
        x.row(0, 1, 60);
        Edge.bounds("write(0, ?, 4)", 0, 59, v -> x.write(0, v, 4), 0, 0, -7);
        Due.is("write(0, 60, 4)", x.write(0, 60, 4), -7);
        x.row(1, 1, 0);
        Edge.refused("of none: write(1, ?, 4)", 0, -1, v -> x.write(1, v, 4), -7);
        Due.is("of none: write(1, 0, 4)", x.write(1, 0, 4), -7);
        counted(x, 2, 1, 3);
        Edge.refused("of three: write(2, ?, 240)", 0, 2, v -> x.write(2, v, 240), -7);
        numbers("the row stays", x, 2, 1, 4, 8, 12);
    }

    /** 63: "-6: it has nothing", ahead of -7; "-2: there is no such SLOT", ahead of both. */
    static void writeToNothing() {
        OppositeNets x = scale();
        for (int slot = 0; slot < 4; slot++) {
            Due.is("write(" + slot + ", 0, 0)", x.write(slot, 0, 0), -6);
            Due.is("write(" + slot + ", -1, 0)", x.write(slot, -1, 0), -6);
            Due.is("write(" + slot + ", 60, 0)", x.write(slot, 60, 0), -6);
        }
        Edge.refused("write(?, 0, 0)", 0, 3, v -> x.write(v, 0, 0), -2);
        Edge.refused("write(?, -1, 0)", 0, 3, v -> x.write(v, -1, 0), -2);
        Due.is("no row by that", x.count(9), 0);
    }

    /** 63: where "-2", "-6", "-7" are told all stays as it was. */
    static void refusedWriteLeavesAll() {
        OppositeNets x = Edge.busy();
        Edge.stays("write of none", x, () -> {
            x.write(0, 3, 1);
            x.write(0, -1, 1);
            x.write(1, 0, 1);
            x.write(4, 0, 1);
            x.write(-1, 0, 1);
        });
    }

    /** 63: "cut to its WIDTH": a number that is 0 in its lowest bytes is 0, the least and greatest long among them. */
    static void writeIsCut() {
        long[] whole = {256, 65536, 4294967296L};
        for (int width = 0; width < 3; width++) {
            OppositeNets x = scale();
            x.row(0, width, 7);
            x.write(0, 0, whole[width]);
            x.write(0, 1, whole[width] + 40);
            x.write(0, 2, -whole[width] + 44);
            x.write(0, 3, Long.MIN_VALUE);
            x.write(0, 4, Long.MIN_VALUE + 48);
            x.write(0, 5, whole[width] * 3 + 52);
            x.write(0, 6, Long.MAX_VALUE - whole[width] + 57);
            numbers("WIDTH " + width, x, 0, width, 0, 40, 44, 0, 48, 52, 56);
        }
    }

    /** SLOTS: "numbers of 1, 2, 4 or 8 bytes": the greatest of each is above 0, and one more is the least, below 0. */
    static void greatestAndLeastOfEachWidth() {
        long[] greatest = {Byte.MAX_VALUE, Short.MAX_VALUE, Integer.MAX_VALUE, Long.MAX_VALUE};
        for (int width = 0; width < 4; width++) {
            OppositeNets x = one();
            tell(x, 0, width, 0, greatest[width], 0);
            Due.is("the greatest of WIDTH " + width + " is a FORCE", x.seen(0), 2);
            x.write(0, 1, greatest[width] + 1);
            Due.is("one more of WIDTH " + width + " is below 0", x.seen(0), -2);
            x.write(0, 1, -1);
            Due.is("-1 of WIDTH " + width + " is below 0", x.seen(0), -2);
            x.write(0, 1, -greatest[width] - 1);
            Due.is("the least of WIDTH " + width + " is below 0", x.seen(0), -2);
        }
    }

    /** 63: "cut to its WIDTH": of 8 bytes nothing is cut, of fewer what is above them. */
    static void whatIsAboveTheWidth() {
        long[] above = {1L << 8, 1L << 16, 1L << 32, 1L << 62};
        for (int width = 0; width < 4; width++) {
            for (int i = 0; i < 4; i++) {
                OppositeNets x = one();
                tell(x, 0, width, 0, above[i] + 5, 1);
                Due.is("WIDTH " + width + ", " + above[i] + " and 5", x.seen(0), i >= width && width < 3 ? 2 : 0);
            }
        }
    }

    /** 64: "from one on, are put to another one's (or its own), from one on": all 60, one, the last one, and the rest stays. */
    static void pasteWithinTheRows() {
        OppositeNets x = scale();
        counted(x, 0, 1, 60);
        x.row(1, 1, 60);
        Due.is("all 60", x.paste(0, 0, 1, 0, 60), 0);
        Due.is("the last of them", number(x, 1, 59, 1), 240);
        Due.is("the first of them", number(x, 1, 0, 1), 4);
        x.row(1, 1, 4);
        Due.is("the last two", x.paste(0, 58, 1, 2, 2), 0);
        numbers("the rest stays", x, 1, 1, 0, 0, 236, 240);
        Due.is("the first to the last", x.paste(0, 0, 1, 3, 1), 0);
        numbers("the rest stays", x, 1, 1, 0, 0, 236, 4);
        Due.is("it stays where it was", number(x, 0, 0, 1), 4);
    }

    /** 64: "(or its own) .. as they were": parts that lie over one another, forward and back. */
    static void pasteOverItself() {
        OppositeNets x = scale();
        counted(x, 0, 2, 6);
        Due.is("forward", x.paste(0, 0, 0, 1, 5), 0);
        numbers("forward", x, 0, 2, 4, 4, 8, 12, 16, 20);
        counted(x, 0, 2, 6);
        Due.is("back", x.paste(0, 2, 0, 0, 4), 0);
        numbers("back", x, 0, 2, 12, 16, 20, 24, 20, 24);
        Due.is("in its place", x.paste(0, 0, 0, 0, 6), 0);
        numbers("in its place", x, 0, 2, 12, 16, 20, 24, 20, 24);
    }

    /** 64: "(also where n is 0: a place above how many it has)": at the end of a row it is none, one behind it is. */
    static void pasteOfNoNumbers() {
        OppositeNets x = scale();
        counted(x, 0, 1, 3);
        x.row(1, 1, 5);
        x.row(2, 1, 0);
        Due.is("at the ends", x.paste(0, 3, 1, 5, 0), 0);
        Due.is("behind its own end", x.paste(0, 4, 1, 5, 0), -7);
        Due.is("behind the other one's end", x.paste(0, 3, 1, 6, 0), -7);
        Due.is("of no numbers to none", x.paste(2, 0, 2, 0, 0), 0);
        Due.is("of no numbers, behind", x.paste(2, 1, 1, 0, 0), -7);
        Due.is("to no numbers, behind", x.paste(0, 0, 2, 1, 0), -7);
        Due.is("one of no numbers", x.paste(2, 0, 1, 0, 1), -7);
        Due.is("one to no numbers", x.paste(0, 0, 2, 0, 1), -7);
        Due.is("the greatest place", x.paste(0, GREATEST, 1, 0, 0), -7);
        Due.is("the other one's greatest place", x.paste(0, 0, 1, GREATEST, 0), -7);
        numbers("nothing happens", x, 0, 1, 4, 8, 12);
        numbers("nothing happens", x, 1, 1, 0, 0, 0, 0, 0);
    }

    /** 64: "-7, and nothing happens: some are beyond their rows": of the one, of the other one, by one. */
    static void pasteBeyondTheRows() {
        OppositeNets x = scale();
        counted(x, 0, 1, 3);
        x.row(1, 1, 5);
        Due.is("all three", x.paste(0, 0, 1, 2, 3), 0);
        x.row(1, 1, 5);
        Due.is("four of three", x.paste(0, 0, 1, 0, 4), -7);
        Due.is("three from 1 on", x.paste(0, 1, 1, 0, 3), -7);
        Due.is("three to 3 on", x.paste(0, 0, 1, 3, 3), -7);
        Due.is("one to 5 on", x.paste(0, 0, 1, 5, 1), -7);
        Due.is("one from 3 on", x.paste(0, 3, 1, 0, 1), -7);
        Due.is("61", x.paste(0, 0, 0, 0, 61), -7);
        numbers("nothing happens", x, 1, 1, 0, 0, 0, 0, 0);
        numbers("nothing happens", x, 0, 1, 4, 8, 12);
    }

    /** 64: "or a place or n is below 0": each, by one and the least int, and nothing happens. */
    static void pasteBelowZero() {
        OppositeNets x = scale();
        counted(x, 0, 1, 3);
        x.row(1, 1, 5);
        for (int v : new int[] {-1, -2, LEAST, LEAST + 1}) {
            Due.is("place " + v, x.paste(0, v, 1, 0, 1), -7);
            Due.is("the other one's place " + v, x.paste(0, 0, 1, v, 1), -7);
            Due.is("n " + v, x.paste(0, 0, 1, 0, v), -7);
            Due.is("place " + v + ", n 0", x.paste(0, v, 1, 0, 0), -7);
            Due.is("the other one's place " + v + ", n 0", x.paste(0, 0, 1, v, 0), -7);
            Due.is("n " + v + " from the ends", x.paste(0, 3, 1, 5, v), -7);
        }
        Due.is("place -1, so that the end is within", x.paste(0, -1, 1, 0, 2), -7);
        Due.is("n -1, from 1 on", x.paste(0, 1, 1, 1, -1), -7);
        numbers("nothing happens", x, 0, 1, 4, 8, 12);
        numbers("nothing happens", x, 1, 1, 0, 0, 0, 0, 0);
    }

    /** 64: "some are beyond their rows": a place and n whose sum passes the greatest int. */
    static void pastePlacesThatPassTheGreatestInt() {
        OppositeNets x = scale();
        counted(x, 0, 1, 3);
        x.row(1, 1, 5);
        Due.is("from 1 on, greatest n", x.paste(0, 1, 1, 1, GREATEST), -7);
        Due.is("from 3 on, greatest n", x.paste(0, 3, 1, 5, GREATEST), -7);
        Due.is("greatest place, one", x.paste(0, GREATEST, 1, 0, 1), -7);
        Due.is("greatest place, three", x.paste(0, GREATEST - 1, 1, 0, 3), -7);
        Due.is("the other one's greatest place, one", x.paste(0, 0, 1, GREATEST, 1), -7);
        Due.is("the other one's greatest place, three", x.paste(0, 0, 1, GREATEST - 1, 3), -7);
        Due.is("all are the greatest", x.paste(0, GREATEST, 1, GREATEST, GREATEST), -7);
        Due.is("the greatest n", x.paste(0, 0, 1, 0, GREATEST), -7);
        numbers("nothing happens", x, 0, 1, 4, 8, 12);
        numbers("nothing happens", x, 1, 1, 0, 0, 0, 0, 0);
    }

    /** 64: "-8: they are not of one WIDTH": each pair of unlike ones, ahead of -7; and nothing happens. */
    static void pasteOfUnlikeWidths() {
        for (int a = 0; a < 4; a++) {
            OppositeNets x = scale();
            counted(x, 0, a, 3);
            for (int b = 0; b < 4; b++) {
                x.row(1, b, 3);
                int due = a == b ? 0 : -8;
                Due.is("WIDTHS " + a + " and " + b, x.paste(0, 0, 1, 0, 1), due);
                Due.is("none of WIDTHS " + a + " and " + b, x.paste(0, 0, 1, 0, 0), due);
                Due.is("beyond, WIDTHS " + a + " and " + b, x.paste(0, 0, 1, 0, 9), a == b ? -7 : -8);
                Due.is("below 0, WIDTHS " + a + " and " + b, x.paste(1, -1, 0, 0, 1), a == b ? -7 : -8);
                if (a != b) {
                    Due.is("nothing happens", number(x, 1, 0, b), 0);
                }
            }
        }
    }

    /** 64: "-6: one has nothing": either, both, its own; ahead of -8 and -7. */
    static void pasteOfNothing() {
        OppositeNets x = scale();
        counted(x, 0, 1, 3);
        Due.is("from it", x.paste(1, 0, 0, 0, 1), -6);
        Due.is("to it", x.paste(0, 0, 1, 0, 1), -6);
        Due.is("both", x.paste(1, 0, 2, 0, 1), -6);
        Due.is("its own", x.paste(3, 0, 3, 0, 0), -6);
        Due.is("from it, below 0", x.paste(1, -1, 0, 0, 1), -6);
        Due.is("to it, beyond", x.paste(0, 0, 1, 0, 99), -6);
        Due.is("no row by that", x.count(9), 1);
        numbers("nothing happens", x, 0, 1, 4, 8, 12);
    }

    /** 64: "-2: there is no such SLOT": either; ahead of -6 and -7. */
    static void pasteOfNoSuchSlot() {
        OppositeNets x = scale();
        counted(x, 0, 1, 3);
        Edge.refused("paste(?, 0, 0, 0, 1)", 0, 3, v -> x.paste(v, 0, 0, 0, 1), -2);
        Edge.refused("paste(0, 0, ?, 0, 1)", 0, 3, v -> x.paste(0, 0, v, 0, 1), -2);
        Edge.refused("of nothing: paste(?, 0, 1, 0, 1)", 0, 3, v -> x.paste(v, 0, 1, 0, 1), -2);
        Edge.refused("of nothing: paste(1, 0, ?, 0, 1)", 0, 3, v -> x.paste(1, 0, v, 0, 1), -2);
        Edge.refused("below 0: paste(?, -1, 0, -1, -1)", 0, 3, v -> x.paste(v, -1, 0, -1, -1), -2);
        numbers("nothing happens", x, 0, 1, 4, 8, 12);
    }

    /** 1, 62 to 64: "No STREET": SLOTS have rows all the same, and these stay whatever STREET comes. */
    static void slotsWithoutAStreet() {
        OppositeNets x = new OppositeNets();
        counted(x, 0, 1, 3);
        x.row(1, 1, 3);
        Due.is("paste", x.paste(0, 0, 1, 0, 3), 0);
        Due.is("no such number", x.write(0, 3, 1), -7);
        Due.read(x, Edge.four(1, 60, 99, 0));
        numbers("a STREET", x, 1, 1, 4, 8, 12);
        Due.read(x, "zz");
        numbers("a FAULT", x, 0, 1, 4, 8, 12);
    }

    // ---- all calls ----

    /** "An object is used for at most 512 calls": the 512th is answered as any. */
    static void the512thCall() {
        OppositeNets x = new OppositeNets();
        x.feed(0x73747265, 0x65742068, 0x6f757365, 0x73203220, 0x73746f72);
        x.feed(0x65797320, 0x313b2020, 0x20202020, 0x20202020, 0x20202020);
        Due.is("3rd", x.street(), 1);
        for (int call = 4; call <= 511; call++) {
            Due.is(call + "th", x.image(call % 3), 0);
        }
        Due.is("512th", x.safe(), 0);
    }
}
