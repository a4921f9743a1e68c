import java.math.BigInteger;

/** Bounds of jumps, of who stands where, and of nights: the block on JUMP, VIII, promises 18 to 23, 57 and 58. */
public final class BoundsOfJumpsTest {
    private static final int NONE = OppositeNets.NONE;
    private static final int LEAST = Integer.MIN_VALUE;
    private static final int GREATEST = Integer.MAX_VALUE;

    public static void main(String[] args) throws ReflectiveOperationException {
        Due.all(BoundsOfJumpsTest.class);
    }

    /** One net, at a storey, that carries what four men of a strength and these knots do; one jumper into it. */
    private static OppositeNets net(int storey, int strength, String knots, int wears, int weight) {
        return Due.told("street houses 2 storeys 6; window 0 " + storey + "; " + Edge.men(4, strength)
                + "net at 0 knots " + knots + " wears " + wears + "; " + Edge.stand(0, 0)
                + "jumper weight " + weight + " at 0;");
    }

    private static void knots(String when, OppositeNets x, int net, int a, int b, int c, int d) {
        Due.is(when + ": knot 0 of " + net, x.corner(net, 0, 0), a);
        Due.is(when + ": knot 1 of " + net, x.corner(net, 1, 0), b);
        Due.is(when + ": knot 2 of " + net, x.corner(net, 2, 0), c);
        Due.is(when + ": knot 3 of " + net, x.corner(net, 3, 0), d);
    }

    /** Nets that never wear, at windows 0 and 1; jumper 0 is held at net 0, 1 is not held at net 1, 2 has no net. */
    private static OppositeNets still() {
        return Due.told("street houses 2 storeys 6; window 0 1; window 0 2; window 0 3; " + Edge.men(8, 5)
                + "net at 0 knots 9 9 9 9 wears 0; net at 1 knots 9 9 9 9 wears 0; " + Edge.stand(0, 0) + Edge.stand(1, 4)
                + "jumper weight 20 at 0; jumper weight 11 at 1; jumper weight 1 at 2;");
    }

    private static OppositeNets sixty() {
        OppositeNets x = still();
        for (int i = 0; i < 60; i++) {
            Due.is("JUMP " + i, x.jump(0), 1);
        }
        return x;
    }

    // ---- JUMP ----

    /** JUMP: "held, if FORCE is no more than it CARRIES": one below, on it, one above. */
    static void heldOnWhatItCarries() {
        Due.is("19 of 20", net(1, 5, "9 9 9 9", 0, 19).jump(0), 1);
        Due.is("20 of 20", net(1, 5, "9 9 9 9", 0, 20).jump(0), 1);
        Due.is("21 of 20", net(1, 5, "9 9 9 9", 0, 21).jump(0), 0);
        Due.is("240 of 240", net(4, 60, "99 99 99 99", 0, 60).jump(0), 1);
        Due.is("244 of 240", net(4, 60, "99 99 99 99", 0, 61).jump(0), 0);
        Due.is("594 of 240", net(6, 60, "99 99 99 99", 0, 99).jump(0), 0);
    }

    /** JUMP: "each knot is then less by wears times the storey (0 at least)": 1 left, none left, less than none. */
    static void knotsAreZeroAtLeast() {
        OppositeNets x = net(2, 3, "7 6 5 3", 3, 1);
        Due.is("held", x.jump(0), 1);
        knots("less by 6", x, 0, 1, 0, 0, 0);
        OppositeNets all = net(6, 3, "54 55 53 99", 9, 2);
        Due.is("held", all.jump(0), 1);
        knots("less by 54", all, 0, 0, 1, 0, 45);
    }

    /** JUMP: "less by wears times the storey": wears 0 leaves the knots. */
    static void knotsThatDoNotWear() {
        OppositeNets x = net(6, 60, "99 98 97 1", 0, 1);
        Due.is("not held", x.jump(0), 0);
        knots("the last one gave", x, 0, 99, 98, 97, 0);
        OppositeNets y = net(2, 60, "99 98 97 1", 0, 2);
        Due.is("held", y.jump(0), 1);
        knots("none wears", y, 0, 99, 98, 97, 1);
    }

    /** JUMP: "each knot is then less by wears times the storey": the knot, not its half, where the NET is wet. */
    static void wholeKnotsWear() {
        OppositeNets x = net(1, 60, "30 31 32 33", 5, 60);
        x.wet(0, 1);
        Due.is("60 of 60", x.jump(0), 1);
        knots("less by 5", x, 0, 25, 26, 27, 28);
        Due.is("60 of 48", x.jump(0), 0);
        knots("one gave", x, 0, 0, 26, 27, 28);
    }

    /** JUMP: "if not, the first CORNER of least HOLD gives: its knot is 0", and no other knot changes. */
    static void theFirstOfLeastGives() {
        String[] told = {"5 5 5 5", "6 5 5 5", "6 6 5 5", "6 6 6 5", "5 6 5 6"};
        int[] due = {0, 1, 2, 3, 0};
        for (int i = 0; i < told.length; i++) {
            OppositeNets x = net(1, 60, told[i], 9, 99);
            Due.is("not held", x.jump(0), 0);
            Due.is("which of " + told[i], x.led(0, 2), due[i]);
            for (int c = 0; c < 4; c++) {
                Due.is("knot " + c + " of " + told[i], x.corner(0, c, 0), c == due[i] ? 0 : told[i].charAt(2 * c) - '0');
            }
        }
    }

    /** JUMP: "the first CORNER of least HOLD gives": not of the least knot: who is weak, who is not there. */
    static void leastHoldIsNotTheLeastKnot() {
        OppositeNets x = Due.told("street houses 2 storeys 1; window 0 1; man 1 strength 9; man 1 strength 9; "
                + "man 1 strength 3; man 1 strength 9; net at 0 knots 4 9 50 9 wears 1; " + Edge.stand(0, 0)
                + "jumper weight 13 at 0;");
        Due.is("13 of 12", x.jump(0), 0);
        knots("the weak one gave", x, 0, 4, 9, 0, 9);
        x.stand(1, NONE, 0);
        Due.is("1 and 2 hold nothing", x.jump(0), 0);
        knots("the first of them gave", x, 0, 4, 0, 0, 9);
    }

    /** JUMP: "no more than it CARRIES", less by the QUARRELS of each pair of CORNERS: on it, and one above. */
    static void jumpOnWhatQuarrelsLeave() {
        for (int c = 0; c < 4; c++) {
            String angry = Edge.four(1, 20, 50, 1) + "quarrel " + c + " " + (c + 1) % 4 + " 2; jumper weight ";
            OppositeNets on = Due.told(angry + "56 at 0;");
            Due.is("night, 56 of 56, pair " + c, on.night(0, 1, 0), 1);
            Due.is("lasts, 56 of 56, pair " + c, on.lasts(0, 56), 37);
            Due.is("lasts, 57 of 56, pair " + c, on.lasts(0, 57), 0);
            Due.is("56 of 56, pair " + c, on.jump(0), 1);
            OppositeNets above = Due.told(angry + "57 at 0;");
            Due.is("night, 57 of 56, pair " + c, above.night(0, 1, 0), 0);
            Due.is("57 of 56, pair " + c, above.jump(0), 0);
            Due.is("what gave, pair " + c, above.led(0, 2), c == 3 ? 0 : c);
        }
    }

    /** JUMP: "on the NET at one's WINDOW": what it CARRIES is by the men there, weaker or stronger than at the other. */
    static void jumpIntoEachOfUnlikeNets() {
        for (int weight = 19; weight <= 21; weight++) {
            OppositeNets x = Due.told("street houses 2 storeys 1; window 0 1; window 0 1; " + Edge.men(4, 5) + Edge.men(4, 6)
                    + "net at 0 knots 9 9 9 9 wears 0; net at 1 knots 9 9 9 9 wears 0; " + Edge.stand(0, 0) + Edge.stand(1, 4)
                    + "jumper weight " + weight + " at 0; jumper weight " + (weight + 4) + " at 1;");
            Due.is(weight + " of 20", x.jump(0), weight <= 20 ? 1 : 0);
            Due.is(weight + 4 + " of 24", x.jump(1), weight <= 20 ? 1 : 0);
        }
    }

    /** JUMP: "its knot is 0": also one that is 0 already. */
    static void whatGaveCanGiveAgain() {
        OppositeNets x = net(1, 5, "9 9 9 9", 0, 21);
        Due.is("first", x.jump(0), 0);
        Due.is("again", x.jump(0), 0);
        Due.is("the same CORNER", x.led(1, 2), 0);
        knots("no other gave", x, 0, 0, 9, 9, 9);
    }

    /** JUMP: "on the NET at one's WINDOW": the other one's knots stay. */
    static void theOtherNetStays() {
        OppositeNets x = Due.told("street houses 2 storeys 6; window 0 1; window 0 2; " + Edge.men(8, 5)
                + "net at 0 knots 9 9 9 9 wears 1; net at 1 knots 8 8 8 8 wears 2; " + Edge.stand(0, 0)
                + Edge.stand(1, 4) + "jumper weight 1 at 0; jumper weight 1 at 1;");
        x.jump(1);
        knots("jumped into 1", x, 0, 9, 9, 9, 9);
        knots("jumped into 1", x, 1, 4, 4, 4, 4);
        x.jump(0);
        knots("jumped into 0", x, 0, 8, 8, 8, 8);
        knots("jumped into 0", x, 1, 4, 4, 4, 4);
    }

    // ---- Promise 18: jump ----

    /** 18: "-5: there is no NET", and all stays as it was. */
    static void jumpWithoutANet() {
        OppositeNets x = Edge.busy();
        Edge.stays("jump(2)", x, () -> Due.is("jump(2)", x.jump(2), -5));
        Due.is("no NETS", Due.told("street houses 2 storeys 1;window 0 1;jumper weight 1 at 0;").jump(0), -5);
    }

    /** 18: "-5: .. there were 60": the 60th is one, the 61st is not, held or not. */
    static void sixtyJumps() {
        OppositeNets x = sixty();
        Due.is("JUMPS", x.count(6), 60);
        Due.is("61st, held", x.jump(0), -5);
        Due.is("61st, not held", x.jump(1), -5);
        Due.is("61st, no NET", x.jump(2), -5);
        Due.is("still", x.count(6), 60);
        knots("as they were", x, 1, 9, 9, 9, 9);
        Due.is("one back", x.undo(), 59);
        Due.is("60th, not held", x.jump(1), 0);
        Due.is("61st again", x.jump(0), -5);
    }

    /** 18: "-5: .. there were 60", and all stays as it was. */
    static void jumpBeyondSixtyLeavesAll() {
        OppositeNets x = Due.told("street houses 2 storeys 1; window 0 1; net at 0 knots 9 9 9 9 wears 0; "
                + "jumper weight 1 at 0;");
        for (int i = 0; i < 60; i++) {
            x.jump(0);
        }
        x.mend(0, 0, 7);
        knots("ahead", x, 0, 7, 9, 9, 9);
        Due.is("61st", x.jump(0), -5);
        knots("behind", x, 0, 7, 9, 9, 9);
        Due.is("the 60th is told", x.led(59, 2), 0);
        Due.is("no 61st", x.led(60, 2), NONE);
        Due.is("taken back", x.undo(), 59);
        knots("as ahead of the 60th", x, 0, 0, 9, 9, 9);
    }

    /** 18: "-2: there is no such JUMPER", and all stays as it was. */
    static void jumpOfNone() {
        OppositeNets x = Edge.busy();
        Edge.stays("jump of none", x, () -> Edge.refused("jump(?)", 0, 2, x::jump, -2));
        Due.is("no STREET", new OppositeNets().jump(0), -2);
        Due.is("no JUMPERS", Due.told("street houses 2 storeys 1;").jump(0), -2);
        OppositeNets full = Edge.full();
        Edge.refused("of nine: jump(?)", 0, 8, full::jump, -2);
    }

    /** VIII: "-2 comes ahead of -5": no such JUMPER where there were 60. */
    static void noSuchJumperAheadOfSixty() {
        OppositeNets x = sixty();
        Edge.refused("behind 60: jump(?)", 0, 2, x::jump, -2);
    }

    // ---- Promise 19: undo ----

    /** 19: "-5: there is none": ahead of any, and when all are taken back. */
    static void undoOfNone() {
        OppositeNets x = still();
        Due.is("ahead of any", x.undo(), -5);
        x.jump(0);
        Due.is("the one", x.undo(), 0);
        Due.is("none any more", x.undo(), -5);
        OppositeNets busy = Edge.busy();
        busy.undo();
        Edge.stays("undo of none", busy, () -> Due.is("undo()", busy.undo(), -5));
    }

    /** 19: "-2: there is no STREET"; VIII: it comes ahead of -5. */
    static void undoWithoutAStreet() {
        Due.is("new", new OppositeNets().undo(), -2);
        OppositeNets x = Edge.busy();
        x.street();
        Due.is("no LINES", x.undo(), -2);
    }

    /** 19: "how many there are": of 60 down to 0. */
    static void undoOfSixty() {
        OppositeNets x = sixty();
        for (int i = 59; i >= 0; i--) {
            Due.is("undo", x.undo(), i);
            Due.is("JUMPS", x.count(6), i);
        }
        Due.is("none", x.undo(), -5);
        Due.is("and anew", x.jump(0), 1);
    }

    /** 19: "(all four knots of its NET are as ahead of it, whatever was mended since)". */
    static void undoWhateverWasMended() {
        OppositeNets x = net(2, 3, "7 6 5 3", 3, 1);
        x.jump(0);
        x.mend(0, 0, 99);
        x.mend(0, 3, 0);
        Due.is("undo", x.undo(), 0);
        knots("as ahead of it", x, 0, 7, 6, 5, 3);
        OppositeNets y = net(1, 5, "9 8 7 6", 0, 21);
        y.mend(0, 1, 44);
        y.jump(0);
        for (int c = 0; c < 4; c++) {
            y.mend(0, c, 50 + c);
        }
        y.undo();
        knots("one gave", y, 0, 9, 44, 7, 6);
    }

    /** 19: "all four knots of its NET are as ahead of it": of unlike knots at each CORNER of both NETS. */
    static void undoOfUnlikeNets() {
        OppositeNets x = Due.told("street houses 2 storeys 6; window 0 1; window 0 2; " + Edge.men(8, 5)
                + "net at 0 knots 11 12 13 14 wears 1; net at 1 knots 21 22 23 24 wears 2; " + Edge.stand(0, 0)
                + Edge.stand(1, 4) + "jumper weight 1 at 0; jumper weight 1 at 1;");
        x.jump(1);
        x.jump(0);
        x.jump(1);
        knots("three JUMPS", x, 0, 10, 11, 12, 13);
        knots("three JUMPS", x, 1, 13, 14, 15, 16);
        x.undo();
        knots("two", x, 1, 17, 18, 19, 20);
        x.undo();
        knots("one", x, 0, 11, 12, 13, 14);
        knots("one", x, 1, 17, 18, 19, 20);
        x.undo();
        knots("none", x, 0, 11, 12, 13, 14);
        knots("none", x, 1, 21, 22, 23, 24);
    }

    /** 19: "all four knots of its NET": the other NET's stay as mended; who stands and what is wet stays too. */
    static void undoOfItsNetAlone() {
        OppositeNets x = still();
        x.jump(1);
        x.jump(0);
        x.mend(0, 0, 1);
        x.mend(1, 3, 77);
        x.wet(0, 1);
        x.stand(0, NONE, 0);
        Due.is("of net 0", x.undo(), 1);
        knots("as ahead of it", x, 0, 9, 9, 9, 9);
        knots("the other one", x, 1, 0, 9, 9, 77);
        Due.is("wet still", x.net(0, 2), 1);
        Due.is("nowhere still", x.man(0, 2), NONE);
        x.mend(0, 2, 3);
        Due.is("of net 1", x.undo(), 0);
        knots("as ahead of it", x, 1, 9, 9, 9, 9);
        knots("the other one", x, 0, 9, 9, 3, 9);
    }

    // ---- Promise 20: led ----

    /** 20: "what 0: the JUMPER, 1: 1 held, 0 not, 2: the CORNER that gave (NONE)". */
    static void ledOfEach() {
        OppositeNets x = still();
        x.jump(1);
        x.jump(0);
        Due.is("its JUMPER", x.led(0, 0), 1);
        Due.is("not held", x.led(0, 1), 0);
        Due.is("what gave", x.led(0, 2), 0);
        Due.is("the next one's JUMPER", x.led(1, 0), 0);
        Due.is("held", x.led(1, 1), 1);
        Due.is("NONE gave", x.led(1, 2), NONE);
    }

    /** 20: "NONE: there is none such": no JUMPS, below 0, behind the last one, of 60, of one taken back. */
    static void ledOfNone() {
        OppositeNets x = still();
        for (int what = 0; what < 3; what++) {
            Due.is("no JUMPS", x.led(0, what), NONE);
        }
        OppositeNets all = sixty();
        for (int what = 0; what < 3; what++) {
            int w = what;
            Edge.refused("led(?, " + w + ")", 0, 59, v -> all.led(v, w), NONE);
        }
        Due.is("the 60th", all.led(59, 1), 1);
        all.undo();
        Due.is("taken back", all.led(59, 1), NONE);
        Due.is("the 59th", all.led(58, 1), 1);
    }

    /** 20: "-2: there is no such what", of a JUMP and of none. */
    static void ledOfNoSuchWhat() {
        OppositeNets x = Edge.busy();
        Edge.refused("led(0, ?)", 0, 2, v -> x.led(0, v), -2);
        Edge.refused("led(1, ?)", 0, 2, v -> x.led(1, v), -2);
        Edge.refused("led(-1, ?)", 0, 2, v -> x.led(-1, v), -2);
    }

    /** 20: "-2: .. no STREET". */
    static void ledWithoutAStreet() {
        OppositeNets x = new OppositeNets();
        for (int what = 0; what < 3; what++) {
            Due.is("led(0, " + what + ")", x.led(0, what), -2);
            Due.is("led(-1, " + what + ")", x.led(-1, what), -2);
        }
    }

    // ---- Promise 21: lasts ----

    /** 21: "(999 at most)": a NET that does not wear; and one that does, as long as it may. */
    static void lastsNoMoreThan999() {
        Due.is("wears 0", net(1, 60, "99 99 99 99", 0, 1).lasts(0, 99), 999);
        Due.is("wears 0, on what it CARRIES", net(6, 60, "99 99 99 99", 0, 1).lasts(0, 40), 999);
        Due.is("wears 0, above it", net(6, 60, "99 99 99 99", 0, 1).lasts(0, 41), 0);
        Due.is("wears 1, weight 1", net(1, 60, "99 99 99 99", 1, 1).lasts(0, 1), 99);
        Due.is("wears 1, weight 60", net(1, 60, "99 99 99 99", 1, 1).lasts(0, 60), 85);
        Due.is("wears 1, weight 61", net(1, 60, "99 99 99 99", 1, 1).lasts(0, 61), 84);
    }

    /** 21: "How many JUMPS .. in a row a NET would hold": none, one, two; the least knot tells. */
    static void lastsNoneAndOne() {
        OppositeNets x = net(1, 60, "99 99 5 99", 5, 1);
        Due.is("20 of 20", x.lasts(0, 20), 1);
        Due.is("21 of 20", x.lasts(0, 21), 0);
        Due.is("1 of 20", x.lasts(0, 1), 1);
        x.mend(0, 2, 6);
        Due.is("4 of 24, then of 4", x.lasts(0, 4), 2);
        Due.is("5 of 24, then of 4", x.lasts(0, 5), 1);
        x.mend(0, 2, 0);
        Due.is("CARRIES 0", x.lasts(0, 1), 0);
    }

    /** 21: "a NET would hold": no JUMPS come of it and the knots stay, behind "-2" too. */
    static void lastsLeavesAll() {
        OppositeNets x = Edge.busy();
        Edge.stays("lasts", x, () -> {
            x.lasts(0, 1);
            x.lasts(0, 99);
            x.lasts(1, 50);
            x.lasts(2, 1);
            x.lasts(0, 0);
            x.lasts(0, 100);
        });
    }

    /** 21: "a weight (1 .. 99)": on the bounds, and "-2" beyond them. */
    static void lastsBesideTheWeights() {
        OppositeNets x = net(1, 60, "99 99 99 99", 1, 1);
        Edge.bounds("lasts(0, ?)", 1, 99, v -> x.lasts(0, v), 99, 75, -2);
    }

    /** 21: "-2: there are none such": no such NET. */
    static void lastsOfNone() {
        OppositeNets x = net(1, 60, "99 99 99 99", 1, 1);
        Edge.refused("lasts(?, 1)", 0, 0, v -> x.lasts(v, 1), -2);
        OppositeNets two = still();
        Edge.refused("of two: lasts(?, 1)", 0, 1, v -> two.lasts(v, 1), -2);
        Due.is("no STREET", new OppositeNets().lasts(0, 1), -2);
        Due.is("no NETS", Due.told("street houses 2 storeys 1;").lasts(0, 1), -2);
    }

    // ---- Promise 22: stand ----

    /** 22: "10 times the NET and the CORNER where he stood (NONE: nowhere)": 0, 3, 10, 13. */
    static void standTellsWhereHeStood() {
        OppositeNets x = Due.told("street houses 2 storeys 1; window 0 1; window 0 1; man 1 strength 5; "
                + "net at 0 knots 9 9 9 9 wears 0; net at 1 knots 9 9 9 9 wears 0;");
        Due.is("nowhere", x.stand(0, 0, 0), NONE);
        Due.is("at 0 0", x.stand(0, 0, 3), 0);
        Due.is("at 0 3", x.stand(0, 1, 0), 3);
        Due.is("at 1 0", x.stand(0, 1, 3), 10);
        Due.is("at 1 3", x.stand(0, NONE, 0), 13);
        Due.is("nowhere again", x.stand(0, NONE, 0), NONE);
        for (int net = 0; net < 2; net++) {
            for (int c = 0; c < 4; c++) {
                Due.is("nobody at " + net + " " + c, x.corner(net, c, 1), NONE);
            }
        }
    }

    /** 22: "(NET NONE: nowhere)": whatever the CORNER. */
    static void standNowhereWhateverTheCorner() {
        for (int c : new int[] {0, 3, 4, -1, LEAST, GREATEST}) {
            OppositeNets x = Edge.busy();
            Due.is("stand(2, NONE, " + c + ")", x.stand(2, NONE, c), 2);
            Due.is("his NET", x.man(2, 2), NONE);
            Due.is("his CORNER", x.man(2, 3), NONE);
            Due.is("who is there", x.corner(0, 2, 1), NONE);
        }
    }

    /** 22: "-2: .. another one stands there"; the MAN himself may. */
    static void standWhereAnotherOneStands() {
        OppositeNets x = Edge.busy();
        Edge.stays("stand where another one does", x, () -> {
            Due.is("he stands elsewhere", x.stand(0, 0, 1), -2);
            Due.is("he stands nowhere", x.stand(4, 0, 3), -2);
        });
        OppositeNets y = Edge.busy();
        Edge.stays("stand where he does", y, () -> {
            Due.is("the first CORNER", y.stand(0, 0, 0), 0);
            Due.is("the last CORNER", y.stand(3, 0, 3), 3);
        });
    }

    /** 22: "-2: there are none such": a MAN, a NET but NONE, a CORNER; and all stays as it was. */
    static void standOfNone() {
        OppositeNets x = Edge.busy();
        Edge.stays("stand of none", x, () -> {
            Edge.refused("stand(?, 1, 0)", 0, 4, v -> x.stand(v, 1, 0), -2);
            Edge.refused("stand(?, NONE, 0)", 0, 4, v -> x.stand(v, NONE, 0), -2);
            Edge.refused("stand(4, ?, 0)", -1, 1, v -> x.stand(4, v, 0), -2);
            Edge.refused("stand(0, ?, 0)", -1, 1, v -> x.stand(0, v, 0), -2);
            Edge.refused("stand(4, 1, ?)", 0, 3, v -> x.stand(4, 1, v), -2);
            Edge.refused("stand(0, 0, ?)", 0, 3, v -> x.stand(0, 0, v), -2);
        });
    }

    /** 22: "-2: there are none such": no STREET, no MEN, no NETS; nine MEN. */
    static void standWithoutAny() {
        OppositeNets none = new OppositeNets();
        Due.is("no STREET", none.stand(0, 0, 0), -2);
        Due.is("no STREET, nowhere", none.stand(0, NONE, 0), -2);
        OppositeNets man = Due.told("street houses 2 storeys 1;man 0 strength 1;");
        Due.is("no NETS", man.stand(0, 0, 0), -2);
        Due.is("no NETS, nowhere", man.stand(0, NONE, 0), NONE);
        OppositeNets full = Edge.full();
        Edge.refused("of nine: stand(?, NONE, 0)", 0, 8, v -> full.stand(v, NONE, 0), -2);
        Due.is("the last of nine", full.stand(8, NONE, 0), NONE);
        Due.is("the one ahead", full.stand(7, NONE, 0), 13);
    }

    // ---- Promise 23: change ----

    /** 23: "Two MEN change where they stand (or do not)": both, one, the other, neither. */
    static void changeOfWhoStandsOrNot() {
        OppositeNets x = Due.told("street houses 2 storeys 1; window 0 1; window 0 1; " + Edge.men(4, 5)
                + "net at 0 knots 9 9 9 9 wears 0; net at 1 knots 9 9 9 9 wears 0; stands 0 at 0 0; stands 1 at 1 3;");
        Due.is("both", x.change(0, 1), 0);
        places(x, 13, 0, NONE, NONE);
        Due.is("the first alone", x.change(0, 2), 0);
        places(x, NONE, 0, 13, NONE);
        Due.is("the other alone", x.change(3, 1), 0);
        places(x, NONE, NONE, 13, 0);
        Due.is("neither", x.change(0, 1), 0);
        places(x, NONE, NONE, 13, 0);
        Due.is("who is at 1 3", x.corner(1, 3, 1), 2);
        Due.is("who is at 0 0", x.corner(0, 0, 1), 3);
    }

    private static void places(OppositeNets x, int... due) {
        for (int m = 0; m < due.length; m++) {
            Due.is("NET of " + m, x.man(m, 2), due[m] == NONE ? NONE : due[m] / 10);
            Due.is("CORNER of " + m, x.man(m, 3), due[m] == NONE ? NONE : due[m] % 10);
        }
    }

    /** 23: "-2: there are none such, one twice", and all stays as it was. */
    static void changeOfNone() {
        OppositeNets x = Edge.busy();
        Edge.stays("change of none", x, () -> {
            Edge.refused("change(?, 0)", 0, 4, v -> x.change(v, 0), -2);
            Edge.refused("change(4, ?)", 0, 4, v -> x.change(4, v), -2);
            for (int m = -1; m <= 5; m++) {
                Due.is("change(" + m + ", " + m + ")", x.change(m, m), -2);
            }
        });
        Due.is("no STREET", new OppositeNets().change(0, 1), -2);
        Due.is("one MAN", Due.told("street houses 2 storeys 1;man 0 strength 1;").change(0, 1), -2);
        OppositeNets full = Edge.full();
        Edge.refused("of nine: change(?, 0)", 0, 8, v -> full.change(v, 0), -2);
        Edge.refused("of nine: change(0, ?)", 0, 8, v -> full.change(0, v), -2);
        Due.is("the last of nine", full.change(8, 0), 0);
    }

    // ---- VIII ----

    /** x becomes (1103515245 x + 12345) modulo 2,147,483,648: with numbers that can't wrap. */
    private static int[] draws(long seed, int n, int of) {
        BigInteger x = BigInteger.valueOf(seed);
        int[] drawn = new int[n];
        for (int i = 0; i < n; i++) {
            x = x.multiply(BigInteger.valueOf(1103515245)).add(BigInteger.valueOf(12345)).mod(BigInteger.valueOf(2147483648L));
            drawn[i] = x.divide(BigInteger.valueOf(65536)).mod(BigInteger.valueOf(of)).intValue();
        }
        return drawn;
    }

    /** So many jumpers, of whom one alone has a net, that always holds. */
    private static OppositeNets oneIsHeld(int jumpers, int which) {
        StringBuilder b = new StringBuilder(Edge.four(1, 60, 60, 0) + "window 0 1; ");
        for (int j = 0; j < jumpers; j++) {
            b.append("jumper weight 1 at ").append(j == which ? 0 : 1).append("; ");
        }
        return Due.told(b.toString());
    }

    /** VIII: "modulo 2,147,483,648", "x / 65536, cut, modulo n": each of 60 draws of 1 .. 9, from the greatest seed. */
    static void drawsFromTheGreatestSeed() {
        for (int jumpers = 1; jumpers <= 9; jumpers++) {
            for (int j = 0; j < jumpers; j++) {
                eachDraw(jumpers, j, 2000000000);
            }
        }
    }

    /** VIII: "(at first it is the seed)": the first draw comes of the next x, from 0 and 1 too. */
    static void drawsFromTheLeastSeeds() {
        for (int jumpers = 1; jumpers <= 9; jumpers++) {
            eachDraw(jumpers, jumpers / 2, 0);
            eachDraw(jumpers, jumpers - 1, 1);
            eachDraw(jumpers, 0, 1999999999);
            eachDraw(jumpers, 0, 65535);
        }
    }

    private static void eachDraw(int jumpers, int j, int seed) {
        OppositeNets x = oneIsHeld(jumpers, j);
        int[] drawn = draws(seed, 60, jumpers);
        int held = 0;
        int lost = NONE;
        for (int n = 1; n <= 60; n++) {
            if (drawn[n - 1] == j) {
                held++;
            } else if (lost == NONE) {
                lost = n - 1;
            }
            String call = "night(" + seed + ", " + n + ", ?) of " + jumpers + " if " + j + " is held";
            Due.is(call + ": how many", x.night(seed, n, 0), held);
            Due.is(call + ": the first that is not", x.night(seed, n, 1), lost);
        }
    }

    /** VIII: "who has no NET at the WINDOW is not held". */
    static void whoHasNoNetIsNotHeld() {
        OppositeNets x = Due.told("street houses 2 storeys 1;window 0 1;jumper weight 1 at 0;");
        Due.is("none is held", x.night(5, 60, 0), 0);
        Due.is("the first is not", x.night(5, 60, 1), 0);
        Due.is("no good year", x.years(5, 20, 1), 0);
    }

    /** VIII: "knots wear and give in it as in a JUMP": a NET that holds three, and then none any more. */
    static void knotsWearInANight() {
        OppositeNets x = net(1, 60, "9 8 7 9", 2, 4);
        Due.is("three", x.night(0, 3, 0), 3);
        Due.is("all of three", x.night(0, 3, 1), NONE);
        Due.is("of four", x.night(0, 4, 0), 4);
        Due.is("of five", x.night(0, 5, 0), 4);
        Due.is("the fifth", x.night(0, 5, 1), 4);
        Due.is("of sixty", x.night(0, 60, 0), 4);
        Due.is("still the fifth", x.night(0, 60, 1), 4);
    }

    /** VIII: knots "give in it as in a JUMP": one that gives to a heavy one holds no light one any more. */
    static void knotsGiveInANight() {
        OppositeNets x = Due.told(Edge.four(1, 5, 9, 0) + "jumper weight 21 at 0; jumper weight 1 at 0;");
        for (int seed = 0; seed < 20; seed++) {
            int[] drawn = draws(seed, 5, 2);
            int light = 0;
            while (light < 5 && drawn[light] == 1) {
                light++;
            }
            Due.is("seed " + seed, x.night(seed, 5, 0), light);
            Due.is("seed " + seed + ": the first that is not", x.night(seed, 5, 1), light == 5 ? NONE : light);
        }
    }

    /** VIII: "and are as they were behind it": knots, JUMPS and all else, also behind years. */
    static void knotsAreAsTheyWere() {
        OppositeNets x = Edge.busy();
        Edge.stays("night, years", x, () -> {
            x.night(0, 60, 0);
            x.night(2000000000, 1, 1);
            x.years(1, 20, 60);
            x.night(-1, 1, 0);
            x.night(0, 0, 0);
            x.night(0, 1, 2);
            x.years(0, 0, 1);
            x.years(0, 1, 61);
        });
    }

    // ---- Promise 57: night ----

    /** 57: "a seed (0 .. 2,000,000,000)": on the bounds, and "-2" beyond them. */
    static void seedOfANight() {
        OppositeNets x = still();
        Edge.bounds("night(?, 1, 0)", 0, 2000000000, v -> x.night(v, 1, 0), held(0, 1), held(2000000000, 1), -2);
        Due.is("one above", x.night(2000000001, 1, 1), -2);
    }

    /** Of the jumpers of still(): the first is held, the others are not. */
    private static int held(int seed, int n) {
        int held = 0;
        for (int j : draws(seed, n, 3)) {
            held += j == 0 ? 1 : 0;
        }
        return held;
    }

    /** 57: "of n (1 .. 60) JUMPS": on the bounds, and "-2" beyond them. */
    static void jumpsOfANight() {
        OppositeNets x = still();
        Edge.bounds("night(7, ?, 0)", 1, 60, v -> x.night(7, v, 0), held(7, 1), held(7, 60), -2);
        Due.is("none", x.night(7, 0, 1), -2);
        Due.is("61", x.night(7, 61, 1), -2);
    }

    /** 57: "what 0 .., 1 ..", and "-2" for another one. */
    static void whatOfANight() {
        OppositeNets x = still();
        Edge.refused("night(7, 1, ?)", 0, 1, v -> x.night(7, 1, v), -2);
    }

    /** 57: "-2: there are none such": no STREET. */
    static void nightWithoutAStreet() {
        OppositeNets x = new OppositeNets();
        Due.is("night(0, 1, 0)", x.night(0, 1, 0), -2);
        Due.is("night(0, 1, 1)", x.night(0, 1, 1), -2);
    }

    /** 57: "NONE, 0: there are no JUMPERS (what 1, 0)"; where two fit, -2 comes ahead. */
    static void nightWithoutJumpers() {
        OppositeNets x = Due.told(Edge.four(1, 5, 9, 0));
        Due.is("what 0", x.night(0, 1, 0), 0);
        Due.is("what 1", x.night(0, 60, 1), NONE);
        Due.is("what 2", x.night(0, 1, 2), -2);
        Edge.refused("night(?, 1, 1)", 0, 2000000000, v -> x.night(v, 1, 1), -2);
        Edge.refused("night(0, ?, 0)", 1, 60, v -> x.night(0, v, 0), -2);
    }

    /** 57: "1: the first that is not (from 0; NONE)": the first, the last, none of all. */
    static void theFirstThatIsNot() {
        OppositeNets x = net(1, 60, "60 60 60 60", 1, 4);
        Due.is("none of 60", x.night(0, 60, 1), NONE);
        Due.is("all of 60", x.night(0, 60, 0), 60);
        x.mend(0, 2, 59);
        Due.is("the last of 60", x.night(0, 60, 1), 59);
        Due.is("all of 59", x.night(0, 59, 1), NONE);
        x.mend(0, 2, 0);
        Due.is("the first", x.night(0, 60, 1), 0);
    }

    /** VIII, 57: "in it as in a JUMP": it is none of the 60 JUMPS, and can be when there were 60. */
    static void nightBehindSixtyJumps() {
        OppositeNets x = sixty();
        Due.is("night", x.night(7, 60, 0), held(7, 60));
        Due.is("JUMPS", x.count(6), 60);
        Due.is("years", x.years(7, 1, 1), held(7, 1));
    }

    // ---- Promise 58: years ----

    /** 58: "m (1 .. 20)": on the bounds, and "-2" beyond them. */
    static void nightsOfYears() {
        OppositeNets x = oneIsHeld(2, 0);
        Edge.bounds("years(7, ?, 2)", 1, 20, v -> x.years(7, v, 2), good(7, 1, 2), good(7, 20, 2), -2);
        Due.is("none", x.years(7, 0, 2), -2);
        Due.is("21", x.years(7, 21, 2), -2);
    }

    /** In how many of m nights the first of two jumpers alone is drawn. */
    private static int good(long seed, int m, int n) {
        int good = 0;
        for (int i = 0; i < m; i++) {
            int others = 0;
            for (int j : draws(seed + i, n, 2)) {
                others += j;
            }
            good += others == 0 ? 1 : 0;
        }
        return good;
    }

    /** 58: "from seeds, the seed and 1, ..": each of them, to m of them. */
    static void seedsOfYears() {
        OppositeNets x = oneIsHeld(2, 0);
        for (int m = 1; m <= 20; m++) {
            Due.is("years(0, " + m + ", 1)", x.years(0, m, 1), good(0, m, 1));
            Due.is("years(99, " + m + ", 2)", x.years(99, m, 2), good(99, m, 2));
            Due.is("years(12345678, " + m + ", 3)", x.years(12345678, m, 3), good(12345678, m, 3));
        }
    }

    /** 58: "from seeds, the seed and 1, ..": the first is 0 .. 2,000,000,000; those behind it may be more. */
    static void seedsBeyondTheGreatest() {
        OppositeNets x = oneIsHeld(2, 0);
        for (int m = 1; m <= 20; m++) {
            Due.is("years(2000000000, " + m + ", 1)", x.years(2000000000, m, 1), good(2000000000L, m, 1));
            Due.is("years(2000000000, " + m + ", 2)", x.years(2000000000, m, 2), good(2000000000L, m, 2));
        }
        Edge.bounds("years(?, 9, 1)", 0, 2000000000, v -> x.years(v, 9, 1), good(0, 9, 1), good(2000000000L, 9, 1), -2);
        Due.is("one above", x.years(2000000001, 1, 1), -2);
    }

    /** 58: n is 1 .. 60 as in a NIGHT, and "-2" beyond. */
    static void jumpsOfYears() {
        OppositeNets x = oneIsHeld(1, 0);
        Edge.bounds("years(7, 20, ?)", 1, 60, v -> x.years(7, 20, v), 20, 20, -2);
        Due.is("none", x.years(7, 20, 0), -2);
        Due.is("61", x.years(7, 20, 61), -2);
    }

    /** VIII, 58: "as they were behind it": what one NIGHT wears is whole in the next one. */
    static void eachNightIsAnew() {
        OppositeNets x = net(1, 60, "60 60 60 60", 1, 4);
        Due.is("60 are held in each", x.years(0, 20, 60), 20);
        x.mend(0, 0, 59);
        Due.is("59 are held in each", x.years(0, 20, 59), 20);
        Due.is("60 in none", x.years(0, 20, 60), 0);
    }

    /** 58: "(all, if there are no JUMPERS)"; -2 comes ahead. */
    static void yearsWithoutJumpers() {
        OppositeNets x = Due.told(Edge.four(1, 5, 9, 0));
        Edge.bounds("years(0, ?, 1)", 1, 20, v -> x.years(0, v, 1), 1, 20, -2);
        Edge.refused("years(?, 20, 1)", 0, 2000000000, v -> x.years(v, 20, 1), -2);
        Edge.refused("years(0, 20, ?)", 1, 60, v -> x.years(0, 20, v), -2);
    }

    /** 58: "-2: there are none such": no STREET, whatever is asked. */
    static void yearsWithoutAStreet() {
        OppositeNets x = new OppositeNets();
        Due.is("years(0, 1, 1)", x.years(0, 1, 1), -2);
        Due.is("years(2000000000, 20, 60)", x.years(2000000000, 20, 60), -2);
        Due.is("years(-1, 0, 0)", x.years(-1, 0, 0), -2);
    }
}
