/** Bounds of roads, of the game of houses, of cats and of shares: Terms IV to VII, promises 37 to 45 and 49 to 52. */
public final class BoundsOfHousesTest {
    private static final int NONE = OppositeNets.NONE;
    private static final int LEAST = Integer.MIN_VALUE;
    private static final int GREATEST = Integer.MAX_VALUE;
    private static final String FOUR = "street houses 4 storeys 6; ";
    /** The longest way: from 0 to 3 by all others. */
    private static final String CHAIN = FOUR + "road 0 1 99; road 1 2 99; road 2 3 99; ";
    private static final String NET = "net at 0 knots 99 99 99 99 wears 0; ";

    public static void main(String[] args) throws ReflectiveOperationException {
        Due.all(BoundsOfHousesTest.class);
    }

    private static void route(OppositeNets x, int house, int other, int... due) {
        for (int i = 0; i <= 4; i++) {
            Due.is("route(" + house + ", " + other + ", " + i + ")", x.route(house, other, i), i < due.length ? due[i] : NONE);
        }
    }

    // ---- Promise 37: alarm ----

    /** 37 and IV: "the fewest minutes by roads": 1, 99, and 297, the most that can be. */
    static void alarmFromOneToAll() {
        OppositeNets x = Due.told(CHAIN);
        Due.is("one road", x.alarm(0, 1), 99);
        Due.is("two", x.alarm(0, 2), 198);
        Due.is("three", x.alarm(0, 3), 297);
        Due.is("back", x.alarm(3, 0), 297);
        Due.is("the shortest", Due.told(FOUR + "road 3 2 1;").alarm(2, 3), 1);
    }

    /** IV: "the fewest minutes by roads": a way round that is shorter by one minute, as long, longer by one. */
    static void alarmByTheShorterWay() {
        for (int minutes = 9; minutes <= 11; minutes++) {
            OppositeNets x = Due.told(FOUR + "road 0 3 " + minutes + "; road 0 1 5; road 1 3 5;");
            Due.is("road of " + minutes, x.alarm(0, 3), Math.min(minutes, 10));
        }
    }

    /** IV: "the fewest minutes by roads from a HOUSE to another one": a way leads by each other HOUSE, the first and the last. */
    static void alarmByEachHouse() {
        for (int by = 0; by < 4; by++) {
            int a = (by + 1) % 4;
            int b = (by + 2) % 4;
            OppositeNets x = Due.told(FOUR + "road " + a + " " + by + " 5; road " + by + " " + b + " 7;");
            Due.is("by " + by, x.alarm(a, b), 12);
            route(x, a, b, a, by, b);
        }
    }

    /** 37: from a HOUSE to itself it is 0 (it is no -2: "one twice" is not told here). */
    static void alarmOfItself() {
        OppositeNets x = Due.told(FOUR);
        for (int h = 0; h < 4; h++) {
            Due.is("alarm(" + h + ", " + h + ")", x.alarm(h, h), 0);
        }
    }

    /** 37: "NONE: there is no way": no roads, or none to it. */
    static void alarmWithoutAWay() {
        Due.is("no roads", Due.told(FOUR).alarm(0, 3), NONE);
        OppositeNets x = Due.told(FOUR + "road 0 1 1; road 2 3 1;");
        Due.is("two parts", x.alarm(1, 2), NONE);
        Due.is("back", x.alarm(3, 0), NONE);
        Due.is("within one", x.alarm(3, 2), 1);
    }

    /** 37: "-2: there are none such": either HOUSE, of two and of four; no STREET. */
    static void alarmOfNone() {
        OppositeNets x = Due.told(CHAIN);
        Edge.refused("alarm(?, 0)", 0, 3, v -> x.alarm(v, 0), -2);
        Edge.refused("alarm(3, ?)", 0, 3, v -> x.alarm(3, v), -2);
        OppositeNets two = Due.told("street houses 2 storeys 1;");
        Edge.refused("of two: alarm(?, 0)", 0, 1, v -> two.alarm(v, 0), -2);
        Edge.refused("of two: alarm(1, ?)", 0, 1, v -> two.alarm(1, v), -2);
        Due.is("one that is none, twice", x.alarm(4, 4), -2);
        Due.is("no STREET", new OppositeNets().alarm(0, 0), -2);
    }

    // ---- Promise 38: route ----

    /** 38: "(from 0: itself)", "NONE: there is none such": one to four HOUSES on a WAY, and behind it. */
    static void routeOfEachLength() {
        OppositeNets x = Due.told(CHAIN);
        route(x, 0, 0, 0);
        route(x, 3, 3, 3);
        route(x, 0, 1, 0, 1);
        route(x, 1, 3, 1, 2, 3);
        route(x, 0, 3, 0, 1, 2, 3);
        route(x, 3, 0, 3, 2, 1, 0);
    }

    /** 38: "NONE: there is none such": i below 0 and behind the last one, to the least and greatest int. */
    static void routeBeyondItsEnds() {
        OppositeNets x = Due.told(CHAIN);
        Edge.refused("route(0, 3, ?)", 0, 3, v -> x.route(0, 3, v), NONE);
        Edge.refused("route(0, 1, ?)", 0, 1, v -> x.route(0, 1, v), NONE);
        Edge.refused("route(2, 2, ?)", 0, 0, v -> x.route(2, 2, v), NONE);
    }

    /** 38: "NONE: there is none such": there is no way, so not even itself is on one. */
    static void routeWithoutAWay() {
        OppositeNets x = Due.told(FOUR + "road 0 1 1; road 2 3 1;");
        route(x, 0, 2);
        route(x, 3, 1);
        route(Due.told(FOUR), 0, 1);
        route(Due.told(FOUR), 1, 1, 1);
    }

    /** IV: "the first is the least row of HOUSES" of WAYS of least minutes, shorter or longer rows. */
    static void routeOfTheLeastRow() {
        OppositeNets x = Due.told(FOUR + "road 0 3 10; road 0 1 5; road 1 3 5; road 0 2 4; road 2 3 6;");
        route(x, 0, 3, 0, 1, 3);
        route(x, 3, 0, 3, 0);
        OppositeNets y = Due.told(FOUR + "road 0 1 10; road 0 2 4; road 2 1 6;");
        route(y, 0, 1, 0, 1);
        route(y, 1, 0, 1, 0);
        OppositeNets z = Due.told(FOUR + "road 0 3 10; road 0 2 4; road 2 3 6;");
        route(z, 0, 3, 0, 2, 3);
        route(Due.told(FOUR + "road 0 3 10; road 0 1 5; road 1 3 6;"), 0, 3, 0, 3);
        route(Due.told(FOUR + "road 0 3 3; road 0 1 1; road 1 2 1; road 2 3 1;"), 0, 3, 0, 1, 2, 3);
    }

    /** 38: "-2 likewise": either HOUSE; it comes ahead of NONE. */
    static void routeOfNone() {
        OppositeNets x = Due.told(CHAIN);
        Edge.refused("route(?, 0, 0)", 0, 3, v -> x.route(v, 0, 0), -2);
        Edge.refused("route(0, ?, 0)", 0, 3, v -> x.route(0, v, 0), -2);
        Edge.refused("route(?, 0, -1)", 0, 3, v -> x.route(v, 0, -1), -2);
        Edge.refused("route(0, ?, 9)", 0, 3, v -> x.route(0, v, 9), -2);
        Due.is("no STREET", new OppositeNets().route(0, 0, 0), -2);
    }

    // ---- Promise 39: last ----

    /** 39: "Minutes till the last HOUSE hears of it": least 1, most 297. */
    static void lastFromOneToAll() {
        OppositeNets x = Due.told(CHAIN);
        Due.is("last(0)", x.last(0), 297);
        Due.is("last(1)", x.last(1), 198);
        Due.is("last(2)", x.last(2), 198);
        Due.is("last(3)", x.last(3), 297);
        Due.is("two HOUSES", Due.told("street houses 2 storeys 1; road 0 1 1;").last(1), 1);
    }

    /** 39: "NONE: not all do": one that no road reaches, and no roads. */
    static void lastIfNotAllHear() {
        OppositeNets x = Due.told(FOUR + "road 0 1 99; road 1 2 99;");
        for (int h = 0; h < 4; h++) {
            Due.is("last(" + h + ")", x.last(h), NONE);
        }
        Due.is("no roads", Due.told("street houses 2 storeys 1;").last(0), NONE);
    }

    /** 39: "-2: there is no such HOUSE"; it comes ahead of NONE. */
    static void lastOfNone() {
        OppositeNets x = Due.told(CHAIN);
        Edge.refused("last(?)", 0, 3, x::last, -2);
        OppositeNets two = Due.told("street houses 2 storeys 1;");
        Edge.refused("of two: last(?)", 0, 1, two::last, -2);
        Due.is("no STREET", new OppositeNets().last(0), -2);
    }

    // ---- Promise 40: middle ----

    /** 40: "the first of several": of two in the midst, of all, and the last one alone. */
    static void middleTheFirstOfSeveral() {
        Due.is("1 and 2", Due.told(CHAIN).middle(), 1);
        Due.is("all", Due.told(FOUR + "road 0 1 9; road 1 2 9; road 2 3 9; road 3 0 9;").middle(), 0);
        Due.is("the last", Due.told(FOUR + "road 3 0 9; road 3 1 9; road 3 2 9;").middle(), 3);
        Due.is("by one minute", Due.told(FOUR + "road 0 1 9; road 1 2 9; road 2 3 8;").middle(), 1);
        Due.is("by one minute, the other one", Due.told(FOUR + "road 0 1 8; road 1 2 9; road 2 3 9;").middle(), 2);
        Due.is("two HOUSES", Due.told("street houses 2 storeys 1; road 1 0 1;").middle(), 0);
    }

    /** 40: "NONE: from none; -2: there is no STREET". */
    static void middleOfNone() {
        Due.is("no roads", Due.told(FOUR).middle(), NONE);
        Due.is("one is not reached", Due.told(FOUR + "road 0 1 1; road 1 2 1;").middle(), NONE);
        Due.is("no STREET", new OppositeNets().middle(), -2);
    }

    // ---- Promise 41: game ----

    /** Two houses; men of house 1 at a net of house 0 that carries 40 dry and 20 wet; what jumps is told. */
    private static OppositeNets feud(String jumpers) {
        return Due.told("street houses 2 storeys 6; window 0 1; window 1 1; " + Edge.men(4, 60)
                + "net at 0 knots 10 10 10 10 wears 0; " + Edge.stand(0, 0) + jumpers);
    }

    /** V: "would be held", dry or wet: FORCE on what it CARRIES, and one above, each way. */
    static void gainsBesideWhatItCarries() {
        int[] weights = {20, 21, 40, 41};
        int[] kept = {2, 2, 2, 0};
        int[] wetted = {2, 0, 0, 0};
        for (int i = 0; i < 4; i++) {
            OppositeNets x = feud("jumper weight " + weights[i] + " at 0;");
            Due.is("kept, " + weights[i], x.game(0, 1, 0, 0, 0), kept[i]);
            Due.is("wetted, " + weights[i], x.game(0, 1, 0, 1, 0), wetted[i]);
            Due.is("asked from the other side, kept", x.game(1, 0, 0, 0, 1), kept[i]);
            Due.is("asked from the other side, wetted", x.game(1, 0, 1, 0, 1), wetted[i]);
        }
    }

    /** V: "2 for each JUMPER .., and 3 if it wets": 0, 3, 18 and 21, least and most. */
    static void gainsFromNoneToAll() {
        OppositeNets none = feud("");
        Due.is("none, keeps", none.game(0, 1, 0, 0, 0), 0);
        Due.is("none, wets", none.game(0, 1, 1, 1, 0), 3);
        Due.is("the other one keeps", none.game(0, 1, 1, 0, 1), 0);
        Due.is("the other one wets", none.game(0, 1, 0, 1, 1), 3);
        OppositeNets nine = feud("jumper weight 20 at 0; ".repeat(9));
        Due.is("nine, keeps", nine.game(0, 1, 0, 1, 0), 18);
        Due.is("nine, wets", nine.game(0, 1, 1, 1, 0), 21);
    }

    /** V: "would be held .. as all stand": less by QUARRELS of each pair of CORNERS, on it and one above. */
    static void gainsLessByQuarrels() {
        for (int c = 0; c < 4; c++) {
            OppositeNets x = Due.told("street houses 2 storeys 1; window 0 1; " + Edge.men(4, 20) + NET + Edge.stand(0, 0)
                    + "quarrel " + c + " " + (c + 1) % 4 + " 2; jumper weight 56 at 0; jumper weight 57 at 0;");
            Due.is("kept, pair " + c, x.game(0, 1, 0, 0, 0), 2);
            Due.is("wetted, pair " + c, x.game(0, 1, 0, 1, 0), 2);
        }
    }

    /** V: "JUMPER at its WINDOWS that has a NET there": not of one without, nor of the other one's. */
    static void gainsOfItsOwnJumpers() {
        OppositeNets x = feud("jumper weight 1 at 1; jumper weight 1 at 0;");
        Due.is("its own", x.game(0, 1, 0, 0, 0), 2);
        Due.is("no NET there", x.game(0, 1, 0, 0, 1), 0);
    }

    /** V: "(they are wet then, as told if not)": a NET that is wet stays so when it is kept. */
    static void keptNetsAreAsTold() {
        OppositeNets x = feud("jumper weight 21 at 0;");
        Due.is("dry", x.game(0, 1, 0, 0, 0), 2);
        x.wet(0, 1);
        Due.is("wet, kept", x.game(0, 1, 0, 0, 0), 0);
        Due.is("wet, wetted", x.game(0, 1, 0, 1, 0), 0);
        x.wet(0, 0);
        Due.is("its own choice wets none of its own", x.game(0, 1, 1, 0, 0), 5);
    }

    /** 41: "-2: there are none such, one twice": HOUSES. */
    static void gameOfNone() {
        OppositeNets x = Due.told(CHAIN);
        Edge.refused("game(?, 0, 0, 0, 0)", 0, 3, v -> x.game(v, 0, 0, 0, 0), -2);
        Edge.refused("game(0, ?, 1, 1, 1)", 0, 3, v -> x.game(0, v, 1, 1, 1), -2);
        for (int h = -1; h <= 4; h++) {
            Due.is("game(" + h + ", " + h + ", 0, 0, 0)", x.game(h, h, 0, 0, 0), -2);
        }
        OppositeNets two = feud("");
        Edge.refused("of two: game(?, 0, 0, 0, 0)", 0, 1, v -> two.game(v, 0, 0, 0, 0), -2);
        Edge.refused("of two: game(1, ?, 0, 0, 0)", 0, 1, v -> two.game(1, v, 0, 0, 0), -2);
        Due.is("no STREET", new OppositeNets().game(0, 1, 0, 0, 0), -2);
    }

    /** 41: "-2: there are none such": a choice, a reply, a what that is not 0 or 1. */
    static void gameOfNoSuchChoice() {
        OppositeNets x = feud("");
        Edge.refused("game(0, 1, ?, 0, 0)", 0, 1, v -> x.game(0, 1, v, 0, 0), -2);
        Edge.refused("game(0, 1, 0, ?, 0)", 0, 1, v -> x.game(0, 1, 0, v, 0), -2);
        Edge.refused("game(0, 1, 0, 0, ?)", 0, 1, v -> x.game(0, 1, 0, 0, v), -2);
        Edge.refused("game(0, 1, ?, 0, 1)", 0, 1, v -> x.game(0, 1, v, 0, 1), -2);
        Edge.refused("game(0, 1, 0, ?, 1)", 0, 1, v -> x.game(0, 1, 0, v, 1), -2);
    }

    // ---- Promise 42: rests ----

    /** 42: "bit 2 times the first one's choice and the other one's": to wet is more by 3, so bit 3 alone. */
    static void restsWhereBothWet() {
        Due.is("no JUMPERS", feud("").rests(0, 1), 8);
        Due.is("JUMPERS", feud("jumper weight 21 at 0; ".repeat(9)).rests(0, 1), 8);
        Due.is("asked from the other side", feud("jumper weight 21 at 0; ".repeat(9)).rests(1, 0), 8);
        Due.is("four HOUSES", Due.told(CHAIN).rests(3, 0), 8);
    }

    /** 42: "-2 likewise": none such, one twice. */
    static void restsOfNone() {
        OppositeNets x = Due.told(CHAIN);
        Edge.refused("rests(?, 0)", 0, 3, v -> x.rests(v, 0), -2);
        Edge.refused("rests(3, ?)", 0, 3, v -> x.rests(3, v), -2);
        for (int h = -1; h <= 4; h++) {
            Due.is("rests(" + h + ", " + h + ")", x.rests(h, h), -2);
        }
        OppositeNets two = feud("");
        Edge.refused("of two: rests(?, 0)", 0, 1, v -> two.rests(v, 0), -2);
        Due.is("no STREET", new OppositeNets().rests(0, 1), -2);
    }

    // ---- Promises 43 to 45: cats ----

    /** The fewest falls, by trying each storey for the first one. */
    private static int[][] fewest() {
        int[][] falls = new int[10][101];
        for (int n = 1; n <= 100; n++) {
            falls[0][n] = 1000;
        }
        for (int cats = 1; cats <= 9; cats++) {
            for (int n = 1; n <= 100; n++) {
                falls[cats][n] = 1000;
                for (int from = 1; from <= n; from++) {
                    int worst = 1 + Math.max(falls[cats - 1][from - 1], falls[cats][n - from]);
                    falls[cats][n] = Math.min(falls[cats][n], worst);
                }
            }
        }
        return falls;
    }

    /** 43: "n (0 .. 99) storeys by so many cats (1 .. 9)", VI: "The fewest falls": each n, each number of cats, no STREET. */
    static void testsOfAllThereAre() {
        int[][] falls = fewest();
        for (int cats = 1; cats <= 9; cats++) {
            OppositeNets x = new OppositeNets();
            for (int n = 0; n <= 99; n++) {
                Due.is("tests(" + n + ", " + cats + ")", x.tests(n, cats), falls[cats][n]);
            }
        }
    }

    /** 43: "n (0 .. 99)", "cats (1 .. 9)": on the bounds, and "-2: there are none such" beyond them. */
    static void testsBesideTheBounds() {
        OppositeNets x = new OppositeNets();
        Edge.bounds("tests(?, 1)", 0, 99, v -> x.tests(v, 1), 0, 99, -2);
        Edge.bounds("tests(?, 9)", 0, 99, v -> x.tests(v, 9), 0, 7, -2);
        Edge.bounds("tests(99, ?)", 1, 9, v -> x.tests(99, v), 99, 7, -2);
        Edge.bounds("tests(0, ?)", 1, 9, v -> x.tests(0, v), 0, 0, -2);
        Due.is("tests(100, 9)", x.tests(100, 9), -2);
        Due.is("tests(-1, 1)", x.tests(-1, 1), -2);
        Due.is("tests(0, 0)", x.tests(0, 0), -2);
        Due.is("tests(99, 10)", x.tests(99, 10), -2);
    }

    /** 44: "so many falls (0 .. 12) by so many cats": each number of falls, each number of cats. */
    static void soughtOfAllThereAre() {
        int[][] most = new int[13][10];
        OppositeNets x = new OppositeNets();
        for (int falls = 0; falls <= 12; falls++) {
            for (int cats = 1; cats <= 9; cats++) {
                most[falls][cats] = falls == 0 ? 0 : most[falls - 1][cats - 1] + 1 + most[falls - 1][cats];
                Due.is("sought(" + falls + ", " + cats + ")", x.sought(falls, cats), most[falls][cats]);
            }
        }
    }

    /** 44: "falls (0 .. 12)", "-2 likewise": on the bounds and beyond them. */
    static void soughtBesideTheBounds() {
        OppositeNets x = new OppositeNets();
        Edge.bounds("sought(?, 1)", 0, 12, v -> x.sought(v, 1), 0, 12, -2);
        Edge.bounds("sought(?, 9)", 0, 12, v -> x.sought(v, 9), 0, 4016, -2);
        Edge.bounds("sought(12, ?)", 1, 9, v -> x.sought(12, v), 12, 4016, -2);
        Edge.bounds("sought(0, ?)", 1, 9, v -> x.sought(0, v), 0, 0, -2);
        Due.is("sought(13, 1)", x.sought(13, 1), -2);
        Due.is("sought(-1, 1)", x.sought(-1, 1), -2);
    }

    /** 45: "(the lowest that does)" of each n of 1 .. 99, each number of cats. */
    static void firstFallOfAllThereAre() {
        int[][] falls = fewest();
        for (int cats = 1; cats <= 9; cats++) {
            OppositeNets x = new OppositeNets();
            for (int n = 1; n <= 99; n++) {
                int from = 1;
                while (1 + Math.max(falls[cats - 1][from - 1], falls[cats][n - from]) != falls[cats][n]) {
                    from++;
                }
                Due.is("firstFall(" + n + ", " + cats + ")", x.firstFall(n, cats), from);
            }
        }
    }

    /** 45: "n (1 .. 99)", "-2 likewise": on the bounds and beyond them; n is 1 at least here. */
    static void firstFallBesideTheBounds() {
        OppositeNets x = new OppositeNets();
        Edge.bounds("firstFall(?, 1)", 1, 99, v -> x.firstFall(v, 1), 1, 1, -2);
        Edge.bounds("firstFall(?, 9)", 1, 99, v -> x.firstFall(v, 9), 1, 36, -2);
        Edge.bounds("firstFall(99, ?)", 1, 9, v -> x.firstFall(99, v), 1, 36, -2);
        Due.is("firstFall(0, 1)", x.firstFall(0, 1), -2);
        Due.is("firstFall(100, 1)", x.firstFall(100, 1), -2);
        Due.is("firstFall(1, 0)", x.firstFall(1, 0), -2);
        Due.is("firstFall(1, 10)", x.firstFall(1, 10), -2);
    }

    // ---- Promise 49: corners ----

    /** 49: "CORNERS at which a HOUSE's MEN stand": none, one, eight at most. */
    static void cornersFromNoneToAll() {
        OppositeNets x = Due.told(FOUR + "window 0 1; window 0 1; " + Edge.men(9, 5) + NET
                + "net at 1 knots 1 1 1 1 wears 0; ");
        Due.is("nobody stands", x.corners(1), 0);
        for (int m = 0; m < 8; m++) {
            x.stand(m, m / 4, m % 4);
            Due.is(m + 1 + " stand", x.corners(1), m + 1);
        }
        Due.is("the first HOUSE", x.corners(0), 0);
        Due.is("the last HOUSE", x.corners(3), 0);
        x.stand(7, NONE, 0);
        Due.is("one is away", x.corners(1), 7);
    }

    /** 49: "-2: there is none such". */
    static void cornersOfNone() {
        OppositeNets x = Due.told(CHAIN);
        Edge.refused("corners(?)", 0, 3, x::corners, -2);
        OppositeNets two = feud("");
        Edge.refused("of two: corners(?)", 0, 1, two::corners, -2);
        Due.is("no STREET", new OppositeNets().corners(0), -2);
    }

    // ---- Promise 50: pays ----

    private static OppositeNets threeStand() {
        return Due.told(FOUR + "window 0 1; " + Edge.men(2, 5) + "man 2 strength 5; " + NET
                + "stands 0 at 0 0; stands 1 at 0 1; stands 2 at 0 2;");
    }

    /** 50: "cut": one below a whole share, on it, one above. */
    static void paysIsCut() {
        OppositeNets x = threeStand();
        int[] sums = {0, 1, 2, 3, 4, 5, 6, 999999, 1000000};
        for (int sum : sums) {
            Due.is("two of three, of " + sum, x.pays(1, sum), sum * 2 / 3);
            Due.is("one of three, of " + sum, x.pays(2, sum), sum / 3);
            Due.is("none of three, of " + sum, x.pays(3, sum), 0);
        }
    }

    /** 50: "among all at which MEN stand": of the first HOUSE and the last one too, also of who WILL not hold. */
    static void paysOfAllHouses() {
        OppositeNets x = Due.told(FOUR + "window 0 1; man 0 strength 1; man 3 strength 1; man 3 strength 1; " + NET
                + "stands 0 at 0 0; stands 1 at 0 1; stands 2 at 0 3;");
        Due.is("the first", x.pays(0, 10), 3);
        Due.is("the last", x.pays(3, 10), 6);
        Due.is("another one", x.pays(1, 10), 0);
    }

    /** 50: "a sum (0 .. 1,000,000)": on the bounds, and -2 beyond them; all of it to one HOUSE. */
    static void paysBesideTheSums() {
        OppositeNets x = Due.told(FOUR + "window 0 1; window 0 1; " + Edge.men(8, 5) + NET
                + "net at 1 knots 1 1 1 1 wears 0; " + Edge.stand(0, 0) + Edge.stand(1, 4));
        Edge.bounds("pays(1, ?)", 0, 1000000, v -> x.pays(1, v), 0, 1000000, -2);
        Due.is("999,999", x.pays(1, 999999), 999999);
        Due.is("1,000,001", x.pays(1, 1000001), -2);
        Due.is("-1", x.pays(1, -1), -2);
    }

    /** 50: "NONE: nobody stands": with MEN and without; -2 comes ahead. */
    static void paysIfNobodyStands() {
        OppositeNets x = Due.told(FOUR + "window 0 1; " + Edge.men(4, 5) + NET);
        Edge.bounds("pays(1, ?)", 0, 1000000, v -> x.pays(1, v), NONE, NONE, -2);
        Edge.refused("pays(?, 5)", 0, 3, v -> x.pays(v, 5), -2);
        Due.is("no MEN", Due.told(FOUR).pays(0, 0), NONE);
        x.stand(0, 0, 0);
        Due.is("one stands", x.pays(1, 7), 7);
        x.stand(0, NONE, 0);
        Due.is("nobody again", x.pays(1, 7), NONE);
    }

    /** 50: "-2: there are none such": no such HOUSE, no STREET. */
    static void paysOfNone() {
        OppositeNets x = threeStand();
        Edge.refused("pays(?, 5)", 0, 3, v -> x.pays(v, 5), -2);
        Due.is("no STREET", new OppositeNets().pays(0, 0), -2);
    }

    // ---- Promise 51: fair ----

    private static void fair(String when, OppositeNets x, int house, int above, int below) {
        Due.is(when + ": above, of " + house, x.fair(0, house, 0), above);
        Due.is(when + ": below, of " + house, x.fair(0, house, 1), below);
    }

    /** VII: "FRACTIONS are told in lowest terms (0 / 1)": of who adds nothing; of no MEN, of three. */
    static void fairOfNothing() {
        fair("all by another one", Due.told(FOUR + "window 0 1; " + Edge.men(4, 5) + NET), 0, 0, 1);
        fair("no MEN", Due.told(FOUR + "window 0 1; " + NET), 3, 0, 1);
        fair("three MEN", Due.told(FOUR + "window 0 1; " + Edge.men(3, 5) + NET), 1, 0, 1);
        fair("nobody WILL", Due.told(FOUR + "window 0 1; feud 0 1; " + Edge.men(9, 5) + NET), 1, 0, 1);
    }

    /** VII: "in lowest terms": whole ones (n / 1), and fractions of which nothing can be taken out. */
    static void fairInLowestTerms() {
        fair("all", Due.told("street houses 2 storeys 1; window 0 1; " + Edge.men(4, 60) + NET), 1, 240, 1);
        String two = FOUR + "window 0 1; man 1 strength N; man 1 strength N; man 2 strength N; man 2 strength N; " + NET;
        fair("a half of 4", Due.told(two.replace("N", "1")), 1, 2, 1);
        String three = FOUR + "window 0 1; man 1 strength N; man 1 strength N; man 2 strength N; man 3 strength N; " + NET;
        for (int h = 1; h < 4; h++) {
            fair("a third of 4", Due.told(three.replace("N", "1")), h, 4, 3);
            fair("a third of 12", Due.told(three.replace("N", "3")), h, 4, 1);
            fair("a third of 240", Due.told(three.replace("N", "60")), h, 80, 1);
        }
        String unlike = FOUR + "window 0 1; " + Edge.men(4, 1) + "man 2 strength 2; ".repeat(4) + "man 3 strength 9; " + NET;
        fair("4 of 1, 8 of 2", Due.told(unlike), 1, 2, 1);
        fair("4 of 1, 8 of 2", Due.told(unlike), 2, 6, 1);
        fair("4 of 1, 8 of 2", Due.told(unlike), 3, 0, 1);
    }

    /** VII: "what a HOUSE adds": asked again behind a feud and a truce, it is of what is so then. */
    static void fairIsAskedAnew() {
        OppositeNets x = Due.told(FOUR + "window 0 1; " + Edge.men(4, 5) + "man 2 strength 5; ".repeat(4) + NET);
        fair("each alone does", x, 1, 10, 1);
        x.truce(0, 1, 1);
        fair("one WILL not", x, 1, 0, 1);
        fair("the other one alone", x, 2, 20, 1);
        Due.is("without the other one", x.without(0, 2), 0);
        x.truce(0, 1, 0);
        fair("each again", x, 2, 10, 1);
    }

    /** 51: "-2: there are none such": a NET, a HOUSE, a what; no STREET. */
    static void fairOfNone() {
        OppositeNets x = Due.told(FOUR + "window 0 1; " + Edge.men(4, 5) + NET);
        Edge.refused("fair(?, 0, 0)", 0, 0, v -> x.fair(v, 0, 0), -2);
        Edge.refused("fair(0, ?, 0)", 0, 3, v -> x.fair(0, v, 0), -2);
        Edge.refused("fair(0, 3, ?)", 0, 1, v -> x.fair(0, 3, v), -2);
        OppositeNets two = Edge.full();
        Edge.refused("of two: fair(?, 0, 1)", 0, 1, v -> two.fair(v, 0, 1), -2);
        OppositeNets few = feud("");
        Edge.refused("of two HOUSES: fair(0, ?, 1)", 0, 1, v -> few.fair(0, v, 1), -2);
        Due.is("no STREET", new OppositeNets().fair(0, 0, 0), -2);
        Due.is("no NETS", Due.told(FOUR).fair(0, 0, 1), -2);
    }

    // ---- Promise 52: without ----

    /** 52: "(0: there are not four)": three others, four others, none. */
    static void withoutFourOthers() {
        String men = FOUR + "window 0 1; " + Edge.men(5, 9) + NET;
        Due.is("none", Due.told(men).without(0, 1), 0);
        Due.is("three", Due.told(men + "man 2 strength 8; ".repeat(3)).without(0, 1), 0);
        Due.is("four", Due.told(men + "man 2 strength 8; ".repeat(4)).without(0, 1), 32);
        Due.is("five of the HOUSE", Due.told(men).without(0, 3), 36);
        Due.is("no MEN", Due.told(FOUR + "window 0 1; " + NET).without(0, 0), 0);
        Due.is("240", Due.told(FOUR + "window 0 1; " + Edge.men(9, 60) + NET).without(0, 0), 240);
    }

    /** 52: "without MEN of a HOUSE": those of all others are there, of the first and of the last one too. */
    static void withoutOthersThanTheFirst() {
        OppositeNets x = Due.told(FOUR + "window 1 1; " + "man 0 strength 5; ".repeat(4) + "man 3 strength 4; ".repeat(4) + NET);
        Due.is("without the last", x.without(0, 3), 20);
        Due.is("without the first", x.without(0, 0), 16);
        Due.is("without its own", x.without(0, 1), 20);
    }

    /** 52: "-2: there are none such": a NET, a HOUSE; no STREET. */
    static void withoutOfNone() {
        OppositeNets x = Due.told(FOUR + "window 0 1; " + Edge.men(4, 5) + NET);
        Edge.refused("without(?, 0)", 0, 0, v -> x.without(v, 0), -2);
        Edge.refused("without(0, ?)", 0, 3, v -> x.without(0, v), -2);
        OppositeNets two = Edge.full();
        Edge.refused("of two: without(?, 3)", 0, 1, v -> two.without(v, 3), -2);
        OppositeNets few = feud("");
        Edge.refused("of two HOUSES: without(0, ?)", 0, 1, v -> few.without(0, v), -2);
        Due.is("no STREET", new OppositeNets().without(0, 0), -2);
        Due.is("no NETS", Due.told(FOUR).without(0, 0), -2);
    }

    // ---- nothing is changed by asking ----

    /** 37 to 45: behind "-2: there are none such" and "NONE" all stays as it was, and behind answers too. */
    static void roadsAndGamesLeaveAll() {
        OppositeNets x = Edge.busy();
        Edge.stays("alarm, route, last, middle, game, rests, tests, sought, firstFall", x, () -> {
            x.alarm(0, 3);
            x.alarm(0, 2);
            x.route(0, 2, 1);
            x.route(0, 2, GREATEST);
            x.route(0, 2, LEAST);
            x.last(0);
            x.last(3);
            x.middle();
            x.game(0, 1, 1, 1, 0);
            x.game(0, 1, 1, 1, 2);
            x.rests(1, 2);
            x.rests(1, 1);
            x.tests(99, 9);
            x.tests(100, 9);
            x.sought(12, 9);
            x.sought(13, 9);
            x.firstFall(99, 9);
            x.firstFall(0, 9);
        });
    }

    /** 49 to 52: behind "-2: there are none such" all stays as it was, and behind answers too. */
    static void sharesLeaveAll() {
        OppositeNets x = Edge.busy();
        Edge.stays("corners, pays, fair, without", x, () -> {
            x.corners(0);
            x.corners(3);
            x.pays(1, 1000000);
            x.pays(1, 1000001);
            x.fair(0, 1, 0);
            x.fair(0, 1, 2);
            x.without(1, 1);
            x.without(2, 1);
        });
    }
}
