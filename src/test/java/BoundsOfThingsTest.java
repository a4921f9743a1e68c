/** Bounds of what is told and of what holds: Terms II, and promises 6 to 17. */
public final class BoundsOfThingsTest {
    private static final int NONE = OppositeNets.NONE;
    private static final int LEAST = Integer.MIN_VALUE;
    private static final int GREATEST = Integer.MAX_VALUE;

    public static void main(String[] args) throws ReflectiveOperationException {
        Due.all(BoundsOfThingsTest.class);
    }

    private static OppositeNets bare() {
        return Due.told("street houses 2 storeys 1;");
    }

    /** A net at storey 1 whose four corners hold what is told: four men of so much strength, knots of 99. */
    private static OppositeNets holding(int a, int b, int c, int d) {
        return Due.told("street houses 2 storeys 6; window 0 1; man 1 strength " + a + "; man 1 strength " + b
                + "; man 1 strength " + c + "; man 1 strength " + d + "; net at 0 knots 99 99 99 99 wears 0; "
                + Edge.stand(0, 0));
    }

    // ---- II ----

    /** II: "FORCE .. weight times the storey": least 1, greatest 594. */
    static void leastAndGreatestForce() {
        OppositeNets x = Due.told("street houses 2 storeys 6;window 0 1;window 0 6;"
                + "jumper weight 1 at 0;jumper weight 99 at 0;jumper weight 1 at 1;jumper weight 99 at 1;");
        Due.is("1 from 1", x.jumper(0, 2), 1);
        Due.is("99 from 1", x.jumper(1, 2), 99);
        Due.is("1 from 6", x.jumper(2, 2), 6);
        Due.is("99 from 6", x.jumper(3, 2), 594);
    }

    /** II: "A MAN WILL hold at a WINDOW, if it is not of his HOUSE". */
    static void nobodyWillAtHisOwnHouse() {
        OppositeNets x = Edge.full();
        for (int m = 0; m < 9; m++) {
            for (int w = 0; w < 9; w++) {
                int his = 1 + m % 3;
                boolean feud = his + w % 4 == 5;
                Due.is("will(" + m + ", " + w + ")", x.will(m, w), his == w % 4 || feud ? 0 : 1);
            }
        }
    }

    /** II: "and there is no feud of these two": told either way, and no other feud matters. */
    static void nobodyWillInAFeud() {
        String head = "street houses 3 storeys 1;window 0 1;man 1 strength 5;";
        Due.is("no feud", Due.told(head).will(0, 0), 1);
        Due.is("feud 0 1", Due.told(head + "feud 0 1;").will(0, 0), 0);
        Due.is("feud 1 0", Due.told(head + "feud 1 0;").will(0, 0), 0);
        Due.is("feuds of others", Due.told(head + "feud 0 2;feud 1 2;").will(0, 0), 1);
    }

    /** II: "HOLD of a CORNER: 0, if nobody stands there". */
    static void nobodyHoldsNothing() {
        OppositeNets x = Due.told(Edge.four(1, 60, 50, 0));
        for (int c = 0; c < 4; c++) {
            Due.is("somebody at " + c, x.corner(0, c, 2), 50);
            x.stand(c, NONE, 0);
            Due.is("nobody at " + c, x.corner(0, c, 2), 0);
            Due.is("CARRIES without " + c, x.net(0, 4), 0);
        }
    }

    /** II: "0, if .. he WILL not": of the WINDOW's HOUSE, or of one that has a feud with it. */
    static void whoWillNotHoldsNothing() {
        OppositeNets x = Due.told("street houses 3 storeys 1;window 0 1;man 0 strength 60;man 1 strength 60;"
                + "man 2 strength 60;net at 0 knots 50 50 50 50 wears 0;stands 0 at 0 0;stands 1 at 0 1;stands 2 at 0 2;");
        Due.is("of the HOUSE", x.corner(0, 0, 2), 0);
        Due.is("of another one", x.corner(0, 1, 2), 50);
        x.truce(1, 0, 1);
        Due.is("in a feud", x.corner(0, 1, 2), 0);
        Due.is("of a third one", x.corner(0, 2, 2), 50);
        x.truce(0, 1, 0);
        Due.is("at peace", x.corner(0, 1, 2), 50);
    }

    /** II: "no more than the knot": strength one below it, on it and one above it. */
    static void noMoreThanTheKnot() {
        for (int strength = 29; strength <= 31; strength++) {
            OppositeNets x = Due.told(Edge.four(1, strength, 30, 0));
            Due.is("strength " + strength, x.corner(0, 2, 2), Math.min(strength, 30));
        }
        OppositeNets x = Due.told(Edge.four(1, 60, 99, 0));
        Due.is("strength 60, knot 99", x.corner(0, 0, 2), 60);
        x.mend(0, 0, 0);
        Due.is("knot 0", x.corner(0, 0, 2), 0);
        x.mend(0, 0, 1);
        Due.is("knot 1", x.corner(0, 0, 2), 1);
    }

    /** II: "(half of it, cut, if the NET is wet)": an odd knot, 1, 0 and 99. */
    static void halfTheKnotIsCut() {
        OppositeNets x = Due.told(Edge.four(1, 60, 99, 0));
        x.wet(0, 1);
        int[] knots = {0, 1, 2, 3, 4, 59, 60, 61, 98, 99};
        for (int knot : knots) {
            x.mend(0, 1, knot);
            Due.is("wet, knot " + knot, x.corner(0, 1, 2), knot / 2);
            Due.is("the knot is told whole", x.corner(0, 1, 0), knot);
        }
        x.wet(0, 0);
        Due.is("dry again", x.corner(0, 1, 2), 60);
    }

    /** II: "half of it": of the knot, not of what the man has left. */
    static void halfOfTheKnotAlone() {
        for (int strength = 14; strength <= 16; strength++) {
            OppositeNets x = Due.told(Edge.four(1, strength, 31, 0));
            x.wet(0, 1);
            Due.is("wet, strength " + strength, x.corner(0, 0, 2), Math.min(strength, 15));
        }
    }

    /** II: "his strength less three times all his QUARRELS": none, 1, 9, 9 at both sides. */
    static void lessThreeTimesHisQuarrels() {
        OppositeNets x = holding(60, 60, 60, 60);
        Due.is("none", x.corner(0, 1, 2), 60);
        x.anger(0, 1, 1);
        Due.is("1 at one side", x.corner(0, 1, 2), 57);
        Due.is("1 of the other one", x.corner(0, 0, 2), 57);
        x.anger(0, 1, 9);
        Due.is("9 at one side", x.corner(0, 1, 2), 33);
        x.anger(2, 1, 9);
        Due.is("9 at both", x.corner(0, 1, 2), 6);
        Due.is("9 of the other one", x.corner(0, 2, 2), 33);
        Due.is("who has none", x.corner(0, 3, 2), 60);
    }

    /** II: "0 at least": what is left is 1, 0 and below. */
    static void zeroAtLeast() {
        for (int strength = 25; strength <= 29; strength++) {
            OppositeNets x = holding(60, strength, 60, 60);
            x.anger(0, 1, 9);
            Due.is("strength " + strength + " less 27", x.corner(0, 1, 2), Math.max(0, strength - 27));
        }
        OppositeNets x = holding(60, 1, 60, 60);
        x.anger(0, 1, 9);
        x.anger(1, 2, 9);
        Due.is("1 less 54", x.corner(0, 1, 2), 0);
        Due.is("CARRIES", x.net(0, 4), 0);
    }

    /** II: "CORNERS beside one another: one apart, round (four)": 3 and 0 are, 0 and 2, 1 and 3 are not. */
    static void besideIsOneApartRound() {
        for (int a = 0; a < 4; a++) {
            for (int b = 0; b < 4; b++) {
                if (a != b) {
                    OppositeNets x = holding(60, 60, 60, 60);
                    x.anger(a, b, 2);
                    Due.is(a + " and " + b, x.corner(0, a, 2), Math.abs(a - b) == 2 ? 60 : 54);
                }
            }
        }
    }

    /** II: "with who stands at the two beside it": not with who stands nowhere, or at another NET. */
    static void quarrelsWithOthersDoNotCount() {
        OppositeNets x = Edge.full();
        Due.is("8 and 7 are apart", x.corner(1, 3, 2), 2);
        x.mend(1, 3, 99);
        Due.is("he stands nowhere", x.corner(1, 3, 2), 49);
        x.stand(6, NONE, 0);
        x.stand(8, 1, 2);
        Due.is("he stands beside", x.corner(1, 3, 2), 53 - 27);
        x.stand(8, NONE, 0);
        x.stand(3, NONE, 0);
        x.stand(8, 0, 3);
        Due.is("he stands at the other NET", x.corner(1, 3, 2), 49);
    }

    /** II: "with who stands at the two beside it": also with one who WILL not hold. */
    static void quarrelsWithWhoWillNotCount() {
        OppositeNets x = Due.told("street houses 2 storeys 1;window 0 1;man 0 strength 60;man 1 strength 60;"
                + "net at 0 knots 99 99 99 99 wears 0;stands 0 at 0 0;stands 1 at 0 3;quarrel 0 1 4;");
        Due.is("he WILL not", x.corner(0, 0, 2), 0);
        Due.is("whom he quarrels with", x.corner(0, 3, 2), 48);
    }

    /** II: "four times the least HOLD of its CORNERS": the least at each; 0, 4 and 240. */
    static void carriesFourTimesTheLeast() {
        for (int c = 0; c < 4; c++) {
            OppositeNets x = holding(60, 60, 60, 60);
            Due.is("240", x.net(0, 4), 240);
            x.mend(0, c, 1);
            Due.is("least 1 at " + c, x.net(0, 4), 4);
            x.mend(0, c, 0);
            Due.is("least 0 at " + c, x.net(0, 4), 0);
        }
        Due.is("least of unlike ones", holding(9, 8, 7, 10).net(0, 4), 28);
    }

    /** II: "four times the least HOLD": each pair of CORNERS that quarrels makes it less, and it gives there. */
    static void carriesLessByEachPair() {
        for (int c = 0; c < 4; c++) {
            OppositeNets x = holding(60, 60, 60, 60);
            x.anger(c, (c + 1) % 4, 1);
            Due.is("CARRIES, pair " + c, x.net(0, 4), 228);
            Due.is("holds 228, pair " + c, x.gives(0, 228), NONE);
            Due.is("gives by 229, pair " + c, x.gives(0, 229), c == 3 ? 0 : c);
            Due.is("heaviest, pair " + c, x.heaviest(0), 228);
            Due.is("highest of 38, pair " + c, x.highest(0, 38), 6);
            Due.is("highest of 39, pair " + c, x.highest(0, 39), 5);
        }
    }

    /** NEED: "the greatest FORCE of JUMPERS at its WINDOW (0: none)". */
    static void needIsZeroOfNoJumpers() {
        String street = "street houses 2 storeys 6;window 0 3;window 1 6;net at 0 knots 1 1 1 1 wears 0;";
        Due.is("no JUMPERS", Due.told(street).net(0, 3), 0);
        Due.is("at another WINDOW", Due.told(street + "jumper weight 99 at 1;").net(0, 3), 0);
        Due.is("one", Due.told(street + "jumper weight 1 at 0;").net(0, 3), 3);
        Due.is("the greatest last", Due.told(street + "jumper weight 1 at 0;jumper weight 99 at 0;").net(0, 3), 297);
        Due.is("the greatest first", Due.told(street + "jumper weight 99 at 0;jumper weight 1 at 0;").net(0, 3), 297);
        Due.is("the most there is", Due.told("street houses 2 storeys 6;window 0 6;net at 0 knots 1 1 1 1 wears 0;"
                + "jumper weight 99 at 0;").net(0, 3), 594);
    }

    // ---- Promise 6: window ----

    /** 6: "-2: there are none such": a WINDOW below 0 or behind the last one, of three, of nine. */
    static void windowsThatAreNone() {
        OppositeNets x = Edge.busy();
        OppositeNets full = Edge.full();
        for (int what = 0; what < 3; what++) {
            int w = what;
            Edge.refused("window(?, " + w + ")", 0, 2, v -> x.window(v, w), -2);
            Edge.refused("of nine: window(?, " + w + ")", 0, 8, v -> full.window(v, w), -2);
        }
        Due.is("the last of nine", full.window(8, 0), 0);
        Due.is("the first of nine", full.window(0, 0), 0);
    }

    /** 6: "what 0: HOUSE, 1: storey, 2: its NET (NONE)", and no other what. */
    static void whatOfAWindow() {
        OppositeNets x = Edge.full();
        Due.is("what 0", x.window(7, 0), 3);
        Due.is("what 1", x.window(5, 1), 6);
        Due.is("what 2", x.window(8, 2), 1);
        Due.is("what 2: NONE", x.window(7, 2), NONE);
        Edge.refused("window(8, ?)", 0, 2, v -> x.window(8, v), -2);
        Edge.refused("window(0, ?)", 0, 2, v -> x.window(0, v), -2);
    }

    /** 6: "-2: there are none such": no STREET, no WINDOWS. */
    static void noWindows() {
        Due.is("no STREET", new OppositeNets().window(0, 0), -2);
        Due.is("no WINDOWS", bare().window(0, 0), -2);
        Due.is("and no -1st", bare().window(-1, 0), -2);
    }

    // ---- Promise 7: man ----

    /** 7: "-2: there are none such": a MAN below 0 or behind the last one, of five, of nine. */
    static void menThatAreNone() {
        OppositeNets x = Edge.busy();
        OppositeNets full = Edge.full();
        for (int what = 0; what < 4; what++) {
            int w = what;
            Edge.refused("man(?, " + w + ")", 0, 4, v -> x.man(v, w), -2);
            Edge.refused("of nine: man(?, " + w + ")", 0, 8, v -> full.man(v, w), -2);
        }
        Due.is("the last of nine", full.man(8, 1), 52);
    }

    /** 7: "2: the NET where he stands (NONE), 3: the CORNER (NONE)", and no other what. */
    static void whatOfAMan() {
        OppositeNets x = Edge.full();
        Due.is("his NET", x.man(7, 2), 1);
        Due.is("his CORNER", x.man(7, 3), 3);
        Due.is("the first NET", x.man(0, 2), 0);
        Due.is("the first CORNER", x.man(0, 3), 0);
        Due.is("no NET", x.man(8, 2), NONE);
        Due.is("no CORNER", x.man(8, 3), NONE);
        Edge.refused("man(0, ?)", 0, 3, v -> x.man(0, v), -2);
        Edge.refused("man(8, ?)", 0, 3, v -> x.man(8, v), -2);
    }

    /** 7: "-2: there are none such": no STREET, no MEN. */
    static void noMen() {
        Due.is("no STREET", new OppositeNets().man(0, 0), -2);
        Due.is("no MEN", bare().man(0, 0), -2);
        Due.is("and no -1st", bare().man(-1, 0), -2);
    }

    // ---- Promise 8: net ----

    /** 8: "-2: there are none such": a NET below 0 or behind the last one, of one, of two. */
    static void netsThatAreNone() {
        OppositeNets one = Due.told(Edge.four(1, 60, 50, 0));
        OppositeNets two = Edge.full();
        for (int what = 0; what < 5; what++) {
            int w = what;
            Edge.refused("of one: net(?, " + w + ")", 0, 0, v -> one.net(v, w), -2);
            Edge.refused("of two: net(?, " + w + ")", 0, 1, v -> two.net(v, w), -2);
        }
    }

    /** 8: "what 0: WINDOW, 1: wears, 2: 1 if it is wet, else 0, 3: NEED, 4: what it CARRIES", and no other what. */
    static void whatOfANet() {
        OppositeNets x = Edge.full();
        int[] first = {0, 9, 0, 91, 57 * 4};
        int[] second = {8, 0, 1, 99 * 3, 0};
        for (int what = 0; what < 5; what++) {
            Due.is("net(0, " + what + ")", x.net(0, what), first[what]);
            Due.is("net(1, " + what + ")", x.net(1, what), second[what]);
        }
        Edge.refused("net(0, ?)", 0, 4, v -> x.net(0, v), -2);
        Edge.refused("net(1, ?)", 0, 4, v -> x.net(1, v), -2);
    }

    /** 8: "-2: there are none such": no STREET, no NETS. */
    static void noNets() {
        Due.is("no STREET", new OppositeNets().net(0, 0), -2);
        Due.is("no NETS", bare().net(0, 0), -2);
        Due.is("and no -1st", bare().net(-1, 0), -2);
    }

    // ---- Promise 9: corner ----

    /** 9: "-2: there are none such": a NET, a CORNER below 0 or behind the last one. */
    static void cornersThatAreNone() {
        OppositeNets one = Due.told(Edge.four(1, 60, 50, 0));
        OppositeNets two = Edge.full();
        for (int what = 0; what < 3; what++) {
            int w = what;
            Edge.refused("of one: corner(?, 0, " + w + ")", 0, 0, v -> one.corner(v, 0, w), -2);
            Edge.refused("of two: corner(?, 3, " + w + ")", 0, 1, v -> two.corner(v, 3, w), -2);
            Edge.refused("corner(0, ?, " + w + ")", 0, 3, v -> two.corner(0, v, w), -2);
            Edge.refused("corner(1, ?, " + w + ")", 0, 3, v -> two.corner(1, v, w), -2);
        }
        Due.is("the last one", two.corner(1, 3, 0), 4);
    }

    /** 9: "what 0: its knot, 1: who stands there (NONE), 2: its HOLD", and no other what. */
    static void whatOfACorner() {
        OppositeNets x = Edge.full();
        x.stand(3, NONE, 0);
        Due.is("its knot", x.corner(0, 3, 0), 96);
        Due.is("nobody", x.corner(0, 3, 1), NONE);
        Due.is("its HOLD", x.corner(0, 3, 2), 0);
        Due.is("the first MAN", x.corner(0, 0, 1), 0);
        Due.is("the first HOLD", x.corner(0, 0, 2), 60);
        Edge.refused("corner(0, 0, ?)", 0, 2, v -> x.corner(0, 0, v), -2);
        Edge.refused("corner(1, 3, ?)", 0, 2, v -> x.corner(1, 3, v), -2);
    }

    /** 9: "-2: there are none such": no STREET, no NETS. */
    static void noCorners() {
        Due.is("no STREET", new OppositeNets().corner(0, 0, 0), -2);
        Due.is("no NETS", bare().corner(0, 0, 0), -2);
    }

    // ---- Promise 10: jumper ----

    /** 10: "-2: there are none such": a JUMPER below 0 or behind the last one, of three, of nine. */
    static void jumpersThatAreNone() {
        OppositeNets x = Edge.busy();
        OppositeNets full = Edge.full();
        for (int what = 0; what < 3; what++) {
            int w = what;
            Edge.refused("jumper(?, " + w + ")", 0, 2, v -> x.jumper(v, w), -2);
            Edge.refused("of nine: jumper(?, " + w + ")", 0, 8, v -> full.jumper(v, w), -2);
        }
        Due.is("the last of nine", full.jumper(8, 0), 91);
    }

    /** 10: "what 0: weight, 1: WINDOW, 2: FORCE", and no other what. */
    static void whatOfAJumper() {
        OppositeNets x = Edge.full();
        Due.is("weight", x.jumper(3, 0), 96);
        Due.is("WINDOW", x.jumper(3, 1), 5);
        Due.is("FORCE", x.jumper(3, 2), 576);
        Edge.refused("jumper(3, ?)", 0, 2, v -> x.jumper(3, v), -2);
        Edge.refused("jumper(8, ?)", 0, 2, v -> x.jumper(8, v), -2);
    }

    /** 10: "-2: there are none such": no STREET, no JUMPERS. */
    static void noJumpers() {
        Due.is("no STREET", new OppositeNets().jumper(0, 0), -2);
        Due.is("no JUMPERS", bare().jumper(0, 0), -2);
    }

    // ---- Promise 11: quarrel ----

    /** 11: "(0: none)", and 1 .. 9. */
    static void quarrelsFromNoneToNine() {
        OppositeNets x = Edge.full();
        Due.is("none", x.quarrel(0, 1), 0);
        Due.is("9", x.quarrel(7, 8), 9);
        Due.is("9, either way", x.quarrel(8, 7), 9);
        Due.is("1", x.quarrel(8, 0), 1);
    }

    /** 11: "-2: there are none such": either MAN below 0 or behind the last one. */
    static void quarrelsOfNone() {
        OppositeNets x = Edge.full();
        Edge.refused("quarrel(?, 0)", 0, 8, v -> x.quarrel(v, 0), -2);
        Edge.refused("quarrel(8, ?)", 0, 8, v -> x.quarrel(8, v), -2);
        OppositeNets five = Edge.busy();
        Edge.refused("of five: quarrel(?, 1)", 0, 4, v -> five.quarrel(v, 1), -2);
        Edge.refused("of five: quarrel(1, ?)", 0, 4, v -> five.quarrel(1, v), -2);
        Due.is("no STREET", new OppositeNets().quarrel(0, 1), -2);
        Due.is("no MEN", bare().quarrel(0, 1), -2);
        Due.is("one MAN", Due.told("street houses 2 storeys 1;man 0 strength 1;").quarrel(0, 1), -2);
    }

    /** 11: "-2: .. one twice": each MAN, one who is none too. */
    static void quarrelOfOneTwice() {
        OppositeNets x = Edge.full();
        for (int m = -1; m <= 9; m++) {
            Due.is("quarrel(" + m + ", " + m + ")", x.quarrel(m, m), -2);
        }
    }

    // ---- Promise 12: feud ----

    /** 12: "1, 0", either way. */
    static void feudIsOneOrZero() {
        OppositeNets x = Edge.full();
        for (int h = 0; h < 4; h++) {
            for (int o = 0; o < 4; o++) {
                if (h != o) {
                    Due.is("feud(" + h + ", " + o + ")", x.feud(h, o), h + o == 5 ? 1 : 0);
                }
            }
        }
    }

    /** 12: "-2 likewise": none such, of two HOUSES and of four. */
    static void feudsOfNone() {
        OppositeNets x = Edge.full();
        Edge.refused("feud(?, 0)", 0, 3, v -> x.feud(v, 0), -2);
        Edge.refused("feud(3, ?)", 0, 3, v -> x.feud(3, v), -2);
        OppositeNets two = bare();
        Edge.refused("of two: feud(?, 0)", 0, 1, v -> two.feud(v, 0), -2);
        Edge.refused("of two: feud(1, ?)", 0, 1, v -> two.feud(1, v), -2);
        Due.is("no STREET", new OppositeNets().feud(0, 1), -2);
    }

    /** 12: "-2 likewise": one twice. */
    static void feudOfOneTwice() {
        OppositeNets x = Edge.full();
        for (int h = -1; h <= 4; h++) {
            Due.is("feud(" + h + ", " + h + ")", x.feud(h, h), -2);
        }
    }

    // ---- Promise 13: will ----

    /** 13: "-2: there are none such": a MAN, a WINDOW below 0 or behind the last one. */
    static void willOfNone() {
        OppositeNets x = Edge.full();
        Edge.refused("will(?, 0)", 0, 8, v -> x.will(v, 0), -2);
        Edge.refused("will(8, ?)", 0, 8, v -> x.will(8, v), -2);
        OppositeNets five = Edge.busy();
        Edge.refused("of five: will(?, 2)", 0, 4, v -> five.will(v, 2), -2);
        Edge.refused("of three WINDOWS: will(4, ?)", 0, 2, v -> five.will(4, v), -2);
        Due.is("no STREET", new OppositeNets().will(0, 0), -2);
        Due.is("no MEN", Due.told("street houses 2 storeys 1;window 0 1;").will(0, 0), -2);
        Due.is("no WINDOWS", Due.told("street houses 2 storeys 1;man 0 strength 1;").will(0, 0), -2);
    }

    // ---- Promise 14: gives ----

    /** 14: "The CORNER that would give way by a FORCE; NONE: it holds": on what it CARRIES, one above, one below. */
    static void givesBesideWhatItCarries() {
        OppositeNets x = holding(9, 8, 7, 10);
        Due.is("gives(0, 27)", x.gives(0, 27), NONE);
        Due.is("gives(0, 28)", x.gives(0, 28), NONE);
        Due.is("gives(0, 29)", x.gives(0, 29), 2);
        Due.is("gives(0, greatest)", x.gives(0, GREATEST), 2);
        Due.is("nothing changes", x.corner(0, 2, 0), 99);
    }

    /** 14: "NONE: it holds": a FORCE of 0, though it CARRIES 0. */
    static void givesByNoForce() {
        OppositeNets x = holding(9, 8, 7, 10);
        Due.is("gives(0, 0)", x.gives(0, 0), NONE);
        x.stand(1, NONE, 0);
        Due.is("CARRIES 0: gives(0, 0)", x.gives(0, 0), NONE);
        Due.is("CARRIES 0: gives(0, 1)", x.gives(0, 1), 1);
    }

    /** 14 and the block on JUMP: "the first CORNER of least HOLD gives". */
    static void theFirstOfLeastGives() {
        int[][] holds = {{5, 5, 5, 5, 0}, {6, 5, 5, 5, 1}, {6, 6, 5, 5, 2}, {6, 6, 6, 5, 3}, {5, 6, 5, 6, 0}, {6, 5, 6, 5, 1}};
        for (int[] h : holds) {
            Due.is("least first", holding(h[0], h[1], h[2], h[3]).gives(0, 21), h[4]);
        }
    }

    /** 14: "-2: there is no such NET, a FORCE below 0". */
    static void givesOfNone() {
        OppositeNets x = holding(9, 8, 7, 10);
        Edge.refused("gives(?, 0)", 0, 0, v -> x.gives(v, 0), -2);
        Due.is("gives(0, -1)", x.gives(0, -1), -2);
        Due.is("gives(0, least)", x.gives(0, LEAST), -2);
        OppositeNets two = Edge.full();
        Edge.refused("of two: gives(?, 9)", 0, 1, v -> two.gives(v, 9), -2);
        Due.is("no STREET", new OppositeNets().gives(0, 0), -2);
        Due.is("no NETS", bare().gives(0, 0), -2);
    }

    // ---- Promise 15: held ----

    /** 15: "Whether a JUMPER would be held now": FORCE one below, on and one above what it CARRIES. */
    static void heldBesideWhatItCarries() {
        for (int weight = 27; weight <= 29; weight++) {
            OppositeNets x = Due.told("street houses 2 storeys 1;window 0 1;" + Edge.men(4, 7)
                    + "net at 0 knots 9 9 9 9 wears 0;" + Edge.stand(0, 0) + "jumper weight " + weight + " at 0;");
            Due.is("weight " + weight, x.held(0), weight <= 28 ? 1 : 0);
        }
    }

    /** 15: "(0 too, if there is no NET)". */
    static void heldWithoutANet() {
        OppositeNets x = Edge.busy();
        Due.is("no NET at the WINDOW", x.held(2), 0);
        Due.is("no NETS", Due.told("street houses 2 storeys 1;window 0 1;jumper weight 1 at 0;").held(0), 0);
    }

    /** 15: "-2: there is none such". */
    static void heldOfNone() {
        OppositeNets x = Edge.busy();
        Edge.refused("held(?)", 0, 2, x::held, -2);
        OppositeNets full = Edge.full();
        Edge.refused("of nine: held(?)", 0, 8, full::held, -2);
        Due.is("no STREET", new OppositeNets().held(0), -2);
        Due.is("no JUMPERS", bare().held(0), -2);
    }

    // ---- Promise 16: heaviest ----

    /** 16: "The greatest weight (0 and above)": 0 where it CARRIES nothing or less than the storey, 240, and cut. */
    static void heaviestFromNoneToAll() {
        Due.is("240 from 1", Due.told(Edge.four(1, 60, 99, 0)).heaviest(0), 240);
        Due.is("240 from 6", Due.told(Edge.four(6, 60, 99, 0)).heaviest(0), 40);
        Due.is("240 from 4", Due.told(Edge.four(4, 60, 99, 0)).heaviest(0), 60);
        Due.is("4 from 3", Due.told(Edge.four(3, 1, 99, 0)).heaviest(0), 1);
        Due.is("4 from 4", Due.told(Edge.four(4, 1, 99, 0)).heaviest(0), 1);
        Due.is("4 from 5", Due.told(Edge.four(5, 1, 99, 0)).heaviest(0), 0);
        Due.is("8 from 3", Due.told(Edge.four(3, 2, 99, 0)).heaviest(0), 2);
        OppositeNets x = Due.told(Edge.four(1, 60, 99, 0));
        x.stand(0, NONE, 0);
        Due.is("nothing from 1", x.heaviest(0), 0);
    }

    /** 16: "-2: there is none such". */
    static void heaviestOfNone() {
        OppositeNets one = Due.told(Edge.four(1, 60, 99, 0));
        Edge.refused("heaviest(?)", 0, 0, one::heaviest, -2);
        OppositeNets two = Edge.full();
        Edge.refused("of two: heaviest(?)", 0, 1, two::heaviest, -2);
        Due.is("no STREET", new OppositeNets().heaviest(0), -2);
        Due.is("no NETS", bare().heaviest(0), -2);
    }

    // ---- Promise 17: highest ----

    /** 17: "(1 .. 6, whatever there is)": beyond the STREET's storeys, and 6 at most. */
    static void highestWhateverThereIs() {
        OppositeNets x = Due.told("street houses 2 storeys 1;window 0 1;" + Edge.men(4, 24)
                + "net at 0 knots 99 99 99 99 wears 0;" + Edge.stand(0, 0));
        Due.is("16 from 6 is 96", x.highest(0, 16), 6);
        Due.is("17 from 6 is more", x.highest(0, 17), 5);
        Due.is("weight 1: no more than 6", x.highest(0, 1), 6);
        Due.is("weight 13: no more than 6", x.highest(0, 13), 6);
        Due.is("19 from 5 is 95", x.highest(0, 19), 5);
        Due.is("20 from 5 is more", x.highest(0, 20), 4);
    }

    /** 17: "0: from none": FORCE from storey 1 on what it CARRIES, and one above. */
    static void highestFromNone() {
        OppositeNets x = Due.told(Edge.four(6, 24, 99, 0));
        Due.is("96 from 1", x.highest(0, 96), 1);
        Due.is("97 from 1", x.highest(0, 97), 0);
        Due.is("95 from 1", x.highest(0, 95), 1);
        Due.is("48 from 2", x.highest(0, 48), 2);
        Due.is("49 from 2", x.highest(0, 49), 1);
        x.mend(0, 3, 0);
        Due.is("CARRIES 0", x.highest(0, 1), 0);
    }

    /** 17: "a weight (1 .. 99)": on the bounds, and -2 beyond them. */
    static void highestBesideTheWeights() {
        OppositeNets x = Due.told(Edge.four(1, 60, 99, 0));
        Edge.bounds("highest(0, ?)", 1, 99, v -> x.highest(0, v), 6, 2, -2);
        Due.is("highest(0, 0)", x.highest(0, 0), -2);
        Due.is("highest(0, 100)", x.highest(0, 100), -2);
    }

    /** 17: "-2: there are none such": no such NET. */
    static void highestOfNone() {
        OppositeNets x = Due.told(Edge.four(1, 60, 99, 0));
        Edge.refused("highest(?, 1)", 0, 0, v -> x.highest(v, 1), -2);
        OppositeNets two = Edge.full();
        Edge.refused("of two: highest(?, 99)", 0, 1, v -> two.highest(v, 99), -2);
        Due.is("no STREET", new OppositeNets().highest(0, 1), -2);
        Due.is("no NETS", bare().highest(0, 1), -2);
    }

    // ---- nothing is changed by asking ----

    /** 6 to 10: behind "-2: there are none such" all stays as it was. */
    static void refusedThingsLeaveAll() {
        OppositeNets x = Edge.busy();
        Edge.stays("window, man, net, corner, jumper of none", x, () -> {
            x.window(3, 0);
            x.window(0, 3);
            x.man(5, 0);
            x.man(0, 4);
            x.net(2, 0);
            x.net(0, 5);
            x.corner(0, 4, 0);
            x.corner(2, 0, 0);
            x.corner(0, 0, 3);
            x.jumper(3, 0);
            x.jumper(0, 3);
        });
    }

    /** 11 to 17: behind "-2: there are none such, one twice" all stays as it was, and behind answers too. */
    static void questionsLeaveAll() {
        OppositeNets x = Edge.busy();
        Edge.stays("quarrel, feud, will, gives, held, heaviest, highest", x, () -> {
            x.quarrel(1, 1);
            x.quarrel(1, 5);
            x.feud(1, 1);
            x.feud(1, 3);
            x.will(5, 0);
            x.will(0, 3);
            x.gives(2, 0);
            x.gives(0, -1);
            x.gives(0, GREATEST);
            x.held(3);
            x.held(0);
            x.held(2);
            x.heaviest(2);
            x.heaviest(0);
            x.highest(0, 0);
            x.highest(0, 100);
            x.highest(0, 99);
        });
    }
}
