/** Bounds of where men stand, and of whom one needs: Terms III, and promises 24 to 36. */
public final class BoundsOfMenTest {
    private static final int NONE = OppositeNets.NONE;
    private static final int GREATEST = Integer.MAX_VALUE;
    private static final String ONE = "street houses 2 storeys 6; window 0 1; ";
    private static final String NET = "net at 0 knots 99 99 99 99 wears 0; ";
    private static final String TWO = "street houses 2 storeys 6; window 0 1; window 0 1; ";
    private static final String NETS = NET + "net at 1 knots 99 99 99 99 wears 0; ";

    public static void main(String[] args) throws ReflectiveOperationException {
        Due.all(BoundsOfMenTest.class);
    }

    /** So many men of a strength at one net, into which one jumps; they stand nowhere. */
    private static OppositeNets one(int men, int strength, int weight) {
        return Due.told(ONE + Edge.men(men, strength) + NET + "jumper weight " + weight + " at 0;");
    }

    /** So many men of strength 20 and two nets, into each of which one jumps. */
    private static OppositeNets two(int men, int weight, int other) {
        return Due.told(TWO + Edge.men(men, 20) + NETS + "jumper weight " + weight + " at 0; jumper weight " + other + " at 1;");
    }

    /** All of so many men quarrel with one another. */
    private static String allQuarrel(int men, int n) {
        StringBuilder b = new StringBuilder();
        for (int m = 0; m < men; m++) {
            for (int o = 0; o < m; o++) {
                b.append("quarrel ").append(o).append(' ').append(m).append(' ').append(n).append("; ");
            }
        }
        return b.toString();
    }

    private static void posts(OppositeNets x, int net, int a, int b, int c, int d) {
        int[] due = {a, b, c, d};
        for (int corner = 0; corner < 4; corner++) {
            Due.is("post(" + net + ", " + corner + ")", x.post(net, corner), due[corner]);
        }
    }

    private static void placed(OppositeNets x, int net, int a, int b, int c, int d) {
        int[] due = {a, b, c, d};
        for (int corner = 0; corner < 4; corner++) {
            Due.is("placed(" + net + ", " + corner + ")", x.placed(net, corner), due[corner]);
        }
    }

    // ---- Promise 24: best ----

    /** 24: "-6: there are not four MEN": of none, three, four, nine. */
    static void bestOfFewMen() {
        for (int men = 0; men <= 9; men++) {
            Due.is(men + " MEN", one(men, 7, 1).best(0), men < 4 ? -6 : 28);
        }
    }

    /** 24: "what a NET CARRIES at most": 0 (nobody WILL), 4, 240. */
    static void bestFromNoneToAll() {
        Due.is("240", one(4, 60, 1).best(0), 240);
        Due.is("4", one(4, 1, 1).best(0), 4);
        OppositeNets x = one(9, 60, 1);
        x.truce(0, 1, 1);
        Due.is("nobody WILL", x.best(0), 0);
        posts(x, 0, 0, 1, 2, 3);
        Due.is("three WILL", Due.told(ONE + Edge.men(3, 60) + "man 0 strength 60; " + NET).best(0), 0);
    }

    /** II, 24: "no more than the knot (half of it, cut, if the NET is wet)": of the least knot, at each CORNER. */
    static void bestIsNoMoreThanTheKnots() {
        for (int c = 0; c < 4; c++) {
            OppositeNets x = one(4, 30, 1);
            for (int knot = 29; knot <= 31; knot++) {
                x.mend(0, c, knot);
                Due.is("knot " + knot + " at " + c, x.best(0), 4 * Math.min(30, knot));
            }
            x.wet(0, 1);
            Due.is("wet, knot 31 at " + c, x.best(0), 60);
            x.mend(0, c, 1);
            Due.is("wet, knot 1 at " + c, x.best(0), 0);
            Due.is("wet, knot 1 at " + c + ": rows", x.rows(0, 1), 0);
        }
    }

    /** 4, III: "(in place of another)", "any four MEN": four weak ones in place of nine strong ones, then three. */
    static void standingsOfFewerMenThanBefore() {
        OppositeNets x = Due.told(ONE + Edge.men(9, 60) + NET + "jumper weight 5 at 0;");
        Due.is("nine: best", x.best(0), 240);
        Due.is("nine: safe", x.safe(), 0);
        Due.read(x, ONE + Edge.men(4, 1) + NET + "jumper weight 5 at 0;");
        Due.is("four: best", x.best(0), 4);
        posts(x, 0, 0, 1, 2, 3);
        Due.is("four: rows", x.rows(0, 4), 24);
        Due.is("four: rows above", x.rows(0, 5), 0);
        Due.is("four: safe", x.safe(), NONE);
        Due.is("four: ways", x.ways(), 0);
        Due.is("four: fair", x.fair(0, 1, 0), 4);
        Due.is("four: without", x.without(0, 0), 4);
        Due.read(x, ONE + Edge.men(3, 60) + NET + "jumper weight 5 at 0;");
        Due.is("three: safe", x.safe(), NONE);
        Due.is("three: fair", x.fair(0, 1, 0), 0);
        Due.is("three: without", x.without(0, 0), 0);
    }

    /** III: by QUARRELS "0 at least": what is below 0 is carried as 0, and all rows do so. */
    static void bestIsZeroAtLeast() {
        OppositeNets x = Due.told(ONE + Edge.men(4, 1) + NET + allQuarrel(4, 9));
        Due.is("1 less 54", x.best(0), 0);
        Due.is("all rows", x.rows(0, 0), 24);
        Due.is("none above", x.rows(0, 1), 0);
        posts(x, 0, 0, 1, 2, 3);
    }

    /** III: "by which it CARRIES most": by the very first row alone, where 0 and 2, 1 and 3 can't be beside one another. */
    static void bestByTheFirstRowAlone() {
        OppositeNets x = Due.told(ONE + Edge.men(4, 9) + NET + "quarrel 0 2 9; quarrel 1 3 9;");
        Due.is("best", x.best(0), 36);
        posts(x, 0, 0, 1, 2, 3);
        Due.is("rows", x.rows(0, 36), 8);
        Due.is("without another HOUSE", x.without(0, 0), 36);
        Due.is("fair", x.fair(0, 1, 0), 36);
        x.anger(0, 2, 0);
        x.anger(1, 3, 0);
        x.anger(0, 1, 9);
        x.anger(2, 3, 9);
        Due.is("best, others apart", x.best(0), 36);
        posts(x, 0, 0, 2, 1, 3);
    }

    /** 26: "In how many rows of MEN it CARRIES n .. or more": five unlike MEN, each row tried here, each n asked. */
    static void rowsOfUnlikeMen() {
        for (int first = 0; first < 5; first++) {
            rowsOfUnlikeMenFrom(first);
        }
    }

    /** Five men, of whom each is the first one once. */
    private static void rowsOfUnlikeMenFrom(int first) {
        int[] strengths = {20, 17, 25, 14, 30};
        int[][] quarrels = {{0, 1, 2, 0, 3}, {1, 0, 4, 2, 0}, {2, 4, 0, 1, 5}, {0, 2, 1, 0, 2}, {3, 0, 5, 2, 0}};
        int[] strength = new int[5];
        int[][] quarrel = new int[5][5];
        StringBuilder b = new StringBuilder(ONE);
        for (int m = 0; m < 5; m++) {
            strength[m] = strengths[(m + first) % 5];
            b.append("man 1 strength ").append(strength[m]).append("; ");
        }
        b.append(NET);
        for (int m = 0; m < 5; m++) {
            for (int o = 0; o < 5; o++) {
                quarrel[m][o] = quarrels[(m + first) % 5][(o + first) % 5];
                b.append(quarrel[m][o] == 0 ? "" : "quarrel " + m + " " + o + " " + quarrel[m][o] + "; ");
            }
        }
        OppositeNets x = Due.told(b.toString());
        int[] rows = rowsByWhatTheyCarry(strength, quarrel);
        int more = 0;
        int best = -1;
        for (int n = 120; n >= 0; n--) {
            more += rows[n];
            best = best < 0 && more > 0 ? n : best;
            Due.is("from " + first + ": rows(0, " + n + ")", x.rows(0, n), more);
        }
        Due.is("from " + first + ": best(0)", x.best(0), best);
    }

    private static int[] rowsByWhatTheyCarry(int[] strength, int[][] quarrel) {
        int[] rows = new int[121];
        int men = strength.length;
        for (int i = 0; i < men * men * men * men; i++) {
            int[] row = {i / (men * men * men), i / (men * men) % men, i / men % men, i % men};
            if (java.util.Arrays.stream(row).distinct().count() < 4) {
                continue;
            }
            int least = 60;
            for (int c = 0; c < 4; c++) {
                int with = quarrel[row[c]][row[(c + 1) % 4]] + quarrel[row[c]][row[(c + 3) % 4]];
                least = Math.min(least, Math.max(0, strength[row[c]] - 3 * with));
            }
            rows[4 * least]++;
        }
        return rows;
    }

    /** III: "any four MEN anew": who stands elsewhere too, and "(all others away)": no QUARREL with them counts. */
    static void standingIsAnew() {
        OppositeNets x = Due.told(TWO + Edge.men(8, 9) + NETS + Edge.stand(1, 4) + "stands 0 at 0 0; "
                + "quarrel 0 4 9; quarrel 0 5 9; quarrel 0 6 9; quarrel 0 7 9;");
        Due.is("of net 0", x.best(0), 36);
        Due.is("of net 1", x.best(1), 36);
        posts(x, 1, 0, 1, 2, 3);
        OppositeNets y = Due.told(TWO + Edge.men(4, 9) + NETS + Edge.stand(1, 0));
        Due.is("all stand at the other one", y.best(0), 36);
    }

    /** 24: "-2: there is none such"; it comes ahead of -6. */
    static void bestOfNone() {
        OppositeNets x = one(4, 7, 1);
        Edge.refused("best(?)", 0, 0, x::best, -2);
        OppositeNets two = two(8, 1, 1);
        Edge.refused("of two: best(?)", 0, 1, two::best, -2);
        OppositeNets three = one(3, 7, 1);
        Edge.refused("of three MEN: best(?)", 0, 0, three::best, -2);
        Due.is("no STREET", new OppositeNets().best(0), -2);
        Due.is("no NETS", Due.told(ONE + Edge.men(4, 7)).best(0), -2);
        Due.is("no NETS, no MEN", Due.told(ONE).best(0), -2);
    }

    // ---- Promise 25: post ----

    /** 25 and III: "the first row (MEN by CORNERS, the least)": of 4 and of 9 who are alike. */
    static void postsOfTheFirstRow() {
        posts(one(4, 7, 1), 0, 0, 1, 2, 3);
        posts(one(9, 7, 1), 0, 0, 1, 2, 3);
        OppositeNets x = one(4, 20, 1);
        x.anger(0, 1, 1);
        Due.is("0 and 1 apart", x.best(0), 80);
        posts(x, 0, 0, 2, 1, 3);
        OppositeNets y = Due.told(ONE + Edge.men(5, 7) + Edge.men(4, 8) + NET);
        posts(y, 0, 5, 6, 7, 8);
    }

    /** 25: "-2 likewise, no such CORNER"; it comes ahead of -6. */
    static void postOfNone() {
        OppositeNets x = one(4, 7, 1);
        Edge.refused("post(?, 0)", 0, 0, v -> x.post(v, 0), -2);
        Edge.refused("post(0, ?)", 0, 3, v -> x.post(0, v), -2);
        OppositeNets three = one(3, 7, 1);
        Edge.refused("of three MEN: post(?, 0)", 0, 0, v -> three.post(v, 0), -2);
        Edge.refused("of three MEN: post(0, ?)", 0, 3, v -> three.post(0, v), -2);
        OppositeNets two = two(8, 1, 1);
        Edge.refused("of two: post(?, 3)", 0, 1, v -> two.post(v, 3), -2);
        Due.is("no STREET", new OppositeNets().post(0, 0), -2);
        Due.is("no NETS", Due.told(ONE + Edge.men(4, 7)).post(0, 0), -2);
    }

    /** 25: "-6 likewise": of none, three, four. */
    static void postOfFewMen() {
        for (int men = 0; men <= 4; men++) {
            OppositeNets x = one(men, 7, 1);
            for (int c = 0; c < 4; c++) {
                Due.is(men + " MEN: post(0, " + c + ")", x.post(0, c), men < 4 ? -6 : c);
            }
        }
    }

    // ---- Promise 26: rows ----

    /** 26: n "(0 and above)": by 0 all rows are told, of 4 to 9 MEN. */
    static void rowsByNothing() {
        int[] all = {24, 120, 360, 840, 1680, 3024};
        for (int men = 4; men <= 9; men++) {
            OppositeNets x = one(men, 7, 1);
            Due.is(men + " MEN: rows(0, 0)", x.rows(0, 0), all[men - 4]);
            x.truce(0, 1, 1);
            Due.is(men + " MEN, nobody WILL: rows(0, 0)", x.rows(0, 0), all[men - 4]);
            Due.is(men + " MEN, nobody WILL: rows(0, 1)", x.rows(0, 1), 0);
        }
    }

    /** 26: "n (0 and above) or more": on the most it CARRIES, one below and above, the greatest int. */
    static void rowsBesideTheBest() {
        OppositeNets x = Due.told(ONE + Edge.men(4, 8) + Edge.men(1, 7) + NET);
        Due.is("rows(0, 27)", x.rows(0, 27), 120);
        Due.is("rows(0, 28)", x.rows(0, 28), 120);
        Due.is("rows(0, 29)", x.rows(0, 29), 24);
        Due.is("rows(0, 31)", x.rows(0, 31), 24);
        Due.is("rows(0, 32)", x.rows(0, 32), 24);
        Due.is("rows(0, 33)", x.rows(0, 33), 0);
        Due.is("rows(0, greatest)", x.rows(0, GREATEST), 0);
    }

    /** 26: "-2: there are none such": no such NET, n below 0; it comes ahead of -6. */
    static void rowsOfNone() {
        OppositeNets x = one(4, 7, 1);
        Edge.refused("rows(?, 0)", 0, 0, v -> x.rows(v, 0), -2);
        Due.is("rows(0, -1)", x.rows(0, -1), -2);
        Due.is("rows(0, least)", x.rows(0, Integer.MIN_VALUE), -2);
        OppositeNets three = one(3, 7, 1);
        Edge.refused("of three MEN: rows(?, 0)", 0, 0, v -> three.rows(v, 0), -2);
        Due.is("of three MEN: rows(0, -1)", three.rows(0, -1), -2);
        OppositeNets two = two(8, 1, 1);
        Edge.refused("of two: rows(?, 0)", 0, 1, v -> two.rows(v, 0), -2);
        Due.is("no STREET", new OppositeNets().rows(0, 0), -2);
        Due.is("no NETS", Due.told(ONE + Edge.men(4, 7)).rows(0, 0), -2);
    }

    /** 26: "-6 likewise": of none, three, four. */
    static void rowsOfFewMen() {
        for (int men = 0; men <= 4; men++) {
            Due.is(men + " MEN", one(men, 7, 1).rows(0, 28), men < 4 ? -6 : 24);
        }
    }

    // ---- Promise 27: safe ----

    /** 27 and III: "so that each CARRIES its NEED": one below it, on it, one above. */
    static void safeBesideTheNeed() {
        Due.is("27 of 28", one(4, 7, 27).safe(), 0);
        Due.is("28 of 28", one(4, 7, 28).safe(), 0);
        Due.is("29 of 28", one(4, 7, 29).safe(), NONE);
    }

    /** III: "four at each whose NEED is above 0": three MEN can't, if there is a NEED of 1; without, none are needed. */
    static void safeOfFewMen() {
        Due.is("three, NEED 1", one(3, 60, 1).safe(), NONE);
        Due.is("none, NEED 1", one(0, 60, 1).safe(), NONE);
        Due.is("four, NEED 1", one(4, 60, 1).safe(), 0);
        Due.is("none, no NEED", Due.told(ONE + NET).safe(), 0);
        Due.is("none, somebody jumps elsewhere", Due.told(TWO + NET + "jumper weight 99 at 1;").safe(), 0);
    }

    /** III: "MEN anew at NETS, each once": two NETS that have a NEED ask for eight. */
    static void safeOfTwoNets() {
        Due.is("seven", two(7, 1, 1).safe(), NONE);
        Due.is("eight", two(8, 1, 1).safe(), 0);
        Due.is("nine", two(9, 80, 80).safe(), 0);
        Due.is("the second above", two(9, 80, 81).safe(), NONE);
        Due.is("the first above", two(9, 81, 80).safe(), NONE);
    }

    /** III: "nobody at others": four MEN do, where one of two NETS has no NEED. */
    static void safeWithNobodyAtOthers() {
        OppositeNets first = Due.told(TWO + Edge.men(4, 20) + NETS + "jumper weight 80 at 0;");
        Due.is("the first has a NEED", first.safe(), 0);
        placed(first, 0, 0, 1, 2, 3);
        placed(first, 1, NONE, NONE, NONE, NONE);
        OppositeNets second = Due.told(TWO + Edge.men(4, 20) + NETS + "jumper weight 80 at 1;");
        Due.is("the second has", second.safe(), 0);
        placed(second, 0, NONE, NONE, NONE, NONE);
        placed(second, 1, 0, 1, 2, 3);
    }

    /** III: "with fewest QUARRELS (.. each pair of CORNERS once; all together)": 0, 36 and 72 at most. */
    static void safeWithFewestQuarrels() {
        OppositeNets x = Due.told(ONE + Edge.men(4, 60) + NET + allQuarrel(4, 9) + "jumper weight 24 at 0;");
        Due.is("36", x.safe(), 36);
        x.anger(0, 1, 8);
        Due.is("one less", x.safe(), 35);
        OppositeNets both = Due.told(TWO + Edge.men(8, 60) + NETS + allQuarrel(8, 9)
                + "jumper weight 24 at 0; jumper weight 24 at 1;");
        Due.is("72", both.safe(), 72);
        Due.is("rows of them", both.ways(), 40320);
        OppositeNets none = Due.told(ONE + Edge.men(4, 60) + NET + allQuarrel(4, 9) + "jumper weight 25 at 0;");
        Due.is("they carry less", none.safe(), NONE);
    }

    /** 27: "-2: there is no STREET"; of no NETS, no JUMPERS it is 0. */
    static void safeWithoutAny() {
        Due.is("no STREET", new OppositeNets().safe(), -2);
        Due.is("no NETS", Due.told(ONE).safe(), 0);
        Due.is("no NETS, a JUMPER", Due.told(ONE + "jumper weight 99 at 0;").safe(), 0);
        Due.is("no JUMPERS", Due.told(TWO + Edge.men(9, 60) + NETS).safe(), 0);
    }

    /** III: "the first row (NET 0 first)": of MEN who are alike. */
    static void safeByTheFirstRow() {
        OppositeNets x = two(9, 80, 80);
        placed(x, 0, 0, 1, 2, 3);
        placed(x, 1, 4, 5, 6, 7);
        x.anger(0, 1, 1);
        Due.is("fewest", x.safe(), 0);
        placed(x, 0, 0, 2, 1, 3);
        placed(x, 1, 4, 5, 6, 7);
    }

    /** III: "the first row": of several crews, the least row, not the least crew. */
    static void safeByTheFirstRowOfAllCrews() {
        OppositeNets x = Due.told(ONE + Edge.men(5, 20) + NET + "jumper weight 4 at 0; quarrel 1 2 1; quarrel 2 3 1;");
        Due.is("fewest", x.safe(), 0);
        placed(x, 0, 0, 1, 3, 4);
    }

    /** III: "the first row (NET 0 first)": of several crews of NET 1, the least row, not the least crew. */
    static void safeByTheFirstRowOfTheSecondNet() {
        OppositeNets x = Due.told(TWO + Edge.men(9, 20) + NETS + "jumper weight 4 at 0; jumper weight 4 at 1; "
                + "quarrel 5 6 1; quarrel 6 7 1;");
        Due.is("fewest", x.safe(), 0);
        placed(x, 0, 0, 1, 2, 3);
        placed(x, 1, 4, 5, 7, 8);
    }

    // ---- Promise 28: placed ----

    /** 28: "NONE: nobody, it can't be": no NEED; a NEED that is too great; too few MEN. */
    static void placedNobody() {
        placed(Due.told(ONE + Edge.men(9, 60) + NET), 0, NONE, NONE, NONE, NONE);
        placed(one(9, 7, 29), 0, NONE, NONE, NONE, NONE);
        placed(one(3, 7, 1), 0, NONE, NONE, NONE, NONE);
        placed(one(4, 7, 28), 0, 0, 1, 2, 3);
        OppositeNets x = two(9, 80, 81);
        placed(x, 0, NONE, NONE, NONE, NONE);
        placed(x, 1, NONE, NONE, NONE, NONE);
    }

    /** 28: "-2: there are none such": no such NET, no such CORNER, no STREET. */
    static void placedOfNone() {
        OppositeNets x = one(4, 7, 1);
        Edge.refused("placed(?, 0)", 0, 0, v -> x.placed(v, 0), -2);
        Edge.refused("placed(0, ?)", 0, 3, v -> x.placed(0, v), -2);
        OppositeNets two = two(8, 1, 1);
        Edge.refused("of two: placed(?, 3)", 0, 1, v -> two.placed(v, 3), -2);
        Edge.refused("of two: placed(1, ?)", 0, 3, v -> two.placed(1, v), -2);
        OppositeNets never = one(3, 7, 1);
        Edge.refused("it can't be: placed(0, ?)", 0, 3, v -> never.placed(0, v), -2);
        Due.is("no STREET", new OppositeNets().placed(0, 0), -2);
        Due.is("no NETS", Due.told(ONE).placed(0, 0), -2);
    }

    // ---- Promise 29: ways ----

    /** 29: "In how many rows it is SAFE": 0, 1 (nobody is asked for), 24, 3,024, 40,320, and 362,880 at most. */
    static void waysFromNoneToAll() {
        Due.is("it can't be", one(9, 7, 29).ways(), 0);
        Due.is("three MEN", one(3, 7, 1).ways(), 0);
        Due.is("seven at two NETS", two(7, 1, 1).ways(), 0);
        Due.is("no NEED", Due.told(TWO + Edge.men(9, 60) + NETS).ways(), 1);
        Due.is("no NETS", Due.told(ONE).ways(), 1);
        Due.is("four MEN", one(4, 7, 28).ways(), 24);
        Due.is("nine MEN", one(9, 7, 28).ways(), 3024);
        Due.is("eight at two NETS", two(8, 80, 80).ways(), 40320);
        Due.is("nine at two NETS", two(9, 80, 80).ways(), 362880);
        Due.is("four at one of two", Due.told(TWO + Edge.men(4, 7) + NETS + "jumper weight 28 at 1;").ways(), 24);
    }

    /** 29: "whatever QUARRELS": rows count that are not the quietest. */
    static void waysWhateverQuarrels() {
        OppositeNets x = one(4, 20, 1);
        Due.is("no QUARRELS", x.ways(), 24);
        x.anger(0, 1, 3);
        Due.is("fewest", x.safe(), 0);
        Due.is("all rows", x.ways(), 24);
        x.anger(0, 1, 7);
        Due.is("those that do not carry are none", x.ways(), 8);
    }

    /** 29: "-2: there is no STREET". */
    static void waysWithoutAStreet() {
        OppositeNets x = new OppositeNets();
        Due.is("new", x.ways(), -2);
        Due.read(x, ONE);
        Due.is("a STREET", x.ways(), 1);
        x.street();
        Due.is("no LINES", x.ways(), -2);
    }

    // ---- Promise 30: quarrels ----

    /** 30 and III: "each pair of CORNERS once; all together": none, one pair, 36, 72 at most. */
    static void quarrelsFromNoneToAll() {
        OppositeNets x = Due.told(TWO + Edge.men(8, 60) + NETS + allQuarrel(8, 9));
        Due.is("nobody stands", x.quarrels(), 0);
        x.stand(0, 0, 0);
        Due.is("one", x.quarrels(), 0);
        x.stand(1, 0, 2);
        Due.is("two who are apart", x.quarrels(), 0);
        x.stand(1, 1, 1);
        Due.is("two at two NETS", x.quarrels(), 0);
        x.stand(1, 0, 3);
        Due.is("two beside one another, round", x.quarrels(), 9);
        for (int m = 0; m < 8; m++) {
            x.stand(m, NONE, 0);
        }
        for (int m = 0; m < 8; m++) {
            x.stand(m, m / 4, m % 4);
            Due.is(m + 1 + " stand", x.quarrels(), new int[] {0, 9, 18, 36, 36, 45, 54, 72}[m]);
        }
    }

    /** 30: of no NETS, no MEN 0; "-2 likewise": no STREET. */
    static void quarrelsWithoutAny() {
        Due.is("no STREET", new OppositeNets().quarrels(), -2);
        Due.is("no NETS", Due.told(ONE + Edge.men(4, 60) + allQuarrel(4, 9)).quarrels(), 0);
        Due.is("no MEN", Due.told(ONE + NET).quarrels(), 0);
    }

    /** 30: "QUARRELS as all stand": also of who WILL not hold. */
    static void quarrelsOfWhoWillNot() {
        OppositeNets x = Due.told(ONE + "man 0 strength 5; man 0 strength 5; " + NET
                + "stands 0 at 0 1; stands 1 at 0 2; quarrel 0 1 4;");
        Due.is("they count", x.quarrels(), 4);
    }

    // ---- Promise 31: where ----

    private static final String WINDOWS = "street houses 2 storeys 6; window 0 1; window 0 2; window 0 3; " + Edge.men(4, 6)
            + NET;

    /** 31: "would hold most JUMPERS there": FORCE on what it CARRIES, and one above. */
    static void whereBesideWhatItCarries() {
        OppositeNets on = Due.told(WINDOWS + "jumper weight 12 at 1;");
        Due.is("24 of 24", on.where(0, 0), 1);
        Due.is("one", on.where(0, 1), 1);
        OppositeNets above = Due.told(WINDOWS + "jumper weight 25 at 0; jumper weight 13 at 1; jumper weight 8 at 2;");
        Due.is("25, 26, 24 of 24", above.where(0, 0), 2);
        Due.is("one", above.where(0, 1), 1);
    }

    /** 31: "the first of several (what 0), how many (1)": none at all, as many, more. */
    static void whereTheFirstOfSeveral() {
        OppositeNets none = Due.told(WINDOWS);
        Due.is("no JUMPERS: the first", none.where(0, 0), 0);
        Due.is("no JUMPERS: 0", none.where(0, 1), 0);
        OppositeNets few = Due.told(WINDOWS + "jumper weight 99 at 2;");
        Due.is("none would be held: the first", few.where(0, 0), 0);
        Due.is("none would be held: 0", few.where(0, 1), 0);
        OppositeNets alike = Due.told(WINDOWS + "jumper weight 1 at 2; jumper weight 1 at 1;");
        Due.is("as many: the first", alike.where(0, 0), 1);
        OppositeNets more = Due.told(WINDOWS + "jumper weight 1 at 1;" + "jumper weight 8 at 2;".repeat(8));
        Due.is("more: the last", more.where(0, 0), 2);
        Due.is("eight", more.where(0, 1), 8);
        Due.is("nine", Due.told(WINDOWS + "jumper weight 8 at 2;".repeat(9)).where(0, 1), 9);
    }

    /** 31: a WINDOW that has another NET is none of them, the NET's own is: "(no other one there)". */
    static void whereNoOtherNetIs() {
        String text = "street houses 2 storeys 6; window 0 1; window 0 1; " + Edge.men(4, 6) + NETS
                + "jumper weight 1 at 0; jumper weight 1 at 1; jumper weight 1 at 1;";
        OppositeNets x = Due.told(text);
        Due.is("of net 0", x.where(0, 0), 0);
        Due.is("one there", x.where(0, 1), 1);
        Due.is("of net 1", x.where(1, 0), 1);
        Due.is("two there", x.where(1, 1), 2);
    }

    /** 31: "The WINDOW": of nine each is asked about, to the last one. */
    static void whereOfNineWindows() {
        String text = "street houses 2 storeys 6; " + "window 0 1; ".repeat(9) + Edge.men(4, 6) + NET + "jumper weight 24 at ";
        for (int w = 0; w < 9; w++) {
            Due.is("WINDOW " + w, Due.told(text + w + ";").where(0, 0), w);
        }
        Due.is("none is held: the first that has no other NET", Edge.full().where(1, 0), 1);
        Due.is("none is held", Edge.full().where(1, 1), 0);
        Due.is("one is held: the first", Edge.full().where(0, 0), 0);
        Due.is("one is held", Edge.full().where(0, 1), 1);
    }

    /** 31: "-2: there are none such": no such NET, no such what; it comes ahead of -6. */
    static void whereOfNone() {
        OppositeNets x = Due.told(WINDOWS);
        Edge.refused("where(?, 0)", 0, 0, v -> x.where(v, 0), -2);
        Edge.refused("where(0, ?)", 0, 1, v -> x.where(0, v), -2);
        OppositeNets three = one(3, 7, 1);
        Edge.refused("of three MEN: where(?, 0)", 0, 0, v -> three.where(v, 0), -2);
        Edge.refused("of three MEN: where(0, ?)", 0, 1, v -> three.where(0, v), -2);
        OppositeNets two = two(8, 1, 1);
        Edge.refused("of two: where(?, 1)", 0, 1, v -> two.where(v, 1), -2);
        Due.is("no STREET", new OppositeNets().where(0, 0), -2);
        Due.is("no NETS", Due.told(ONE + Edge.men(4, 7)).where(0, 0), -2);
    }

    /** 31: "-6: there are not four MEN": of none, three, four. */
    static void whereOfFewMen() {
        for (int men = 0; men <= 4; men++) {
            Due.is(men + " MEN: what 0", one(men, 7, 1).where(0, 0), men < 4 ? -6 : 0);
            Due.is(men + " MEN: what 1", one(men, 7, 1).where(0, 1), men < 4 ? -6 : 1);
        }
    }

    // ---- Promises 32, 33: peace, mends ----

    /** Four men of strength 60 who all stand at one net and all quarrel so much; a jumper of a weight. */
    private static OppositeNets angry(int quarrel, int weight) {
        return Due.told(ONE + Edge.men(4, 60) + NET + Edge.stand(0, 0) + allQuarrel(4, quarrel)
                + "jumper weight " + weight + " at 0;");
    }

    private static void peace(String when, OppositeNets x, int pairs, int bits) {
        Due.is(when + ": peace(0)", x.peace(0), pairs);
        Due.is(when + ": mends(0)", x.mends(0), bits);
    }

    /** 32, 33: "so that it CARRIES its NEED": on what it CARRIES as all stand, one below it and one above. */
    static void peaceBesideTheNeed() {
        peace("60 less 54, NEED 24", angry(9, 24), 0, 0);
        peace("60 less 54, NEED 25", angry(9, 25), 2, 5);
        peace("60 less 36, NEED 95", angry(6, 95), 0, 0);
        peace("60 less 36, NEED 96", angry(6, 96), 0, 0);
        peace("60 less 36, NEED 97", angry(6, 97), 2, 5);
    }

    /** 33: "the least set of so few": 5 (pairs 0 and 2) ahead of 10; one pair by its own bit. */
    static void mendsTheLeastSet() {
        for (int c = 0; c < 4; c++) {
            OppositeNets x = Due.told(ONE + Edge.men(4, 20) + NET + Edge.stand(0, 0)
                    + "quarrel " + c + " " + (c + 1) % 4 + " 5; jumper weight 80 at 0;");
            peace("CORNER " + c + " and the next one", x, 1, 1 << c);
        }
        OppositeNets two = Due.told(ONE + Edge.men(4, 20) + NET + Edge.stand(0, 0)
                + "quarrel 1 2 5; quarrel 3 0 5; jumper weight 80 at 0;");
        peace("two pairs", two, 2, 10);
        OppositeNets three = Due.told(ONE + Edge.men(4, 20) + NET + Edge.stand(0, 0)
                + "quarrel 0 1 1; quarrel 1 2 1; quarrel 2 3 1; jumper weight 80 at 0;");
        peace("three pairs", three, 3, 7);
        OppositeNets either = Due.told(ONE + Edge.men(4, 20) + NET + Edge.stand(0, 0)
                + "quarrel 0 1 2; quarrel 1 2 2; jumper weight 56 at 0;");
        peace("either of two", either, 1, 1);
    }

    /** 32, 33: "The fewest pairs": two (1 and 3) do, though three that are a lesser set (0, 1 and 2) do too. */
    static void fewestPairsAheadOfTheLeastSet() {
        peace("1 and 3", Due.told(ONE + Edge.men(4, 20) + NET + Edge.stand(0, 0) + "quarrel 0 1 1; quarrel 1 2 2; "
                + "quarrel 2 3 1; quarrel 3 0 1; jumper weight 68 at 0;"), 2, 10);
    }

    /** 32, 33: "so that it CARRIES its NEED": none are to be made up where there is no NEED, or it CARRIES it. */
    static void peaceWithoutNeed() {
        peace("no JUMPERS", Due.told(ONE + Edge.men(4, 60) + NET + Edge.stand(0, 0) + allQuarrel(4, 9)), 0, 0);
        peace("no JUMPERS, no MEN", Due.told(ONE + NET), 0, 0);
        peace("NEED on what it CARRIES", angry(9, 24), 0, 0);
    }

    /** 32, 33: "NONE: none do": though all four are made up it is one below its NEED; a CORNER where nobody stands. */
    static void peaceThatDoesNotDo() {
        peace("80 of 80", Due.told(ONE + Edge.men(4, 20) + NET + Edge.stand(0, 0) + allQuarrel(4, 9)
                + "jumper weight 80 at 0;"), 4, 15);
        peace("81 of 80", Due.told(ONE + Edge.men(4, 20) + NET + Edge.stand(0, 0) + allQuarrel(4, 9)
                + "jumper weight 81 at 0;"), NONE, NONE);
        OppositeNets x = angry(9, 1);
        x.stand(3, NONE, 0);
        peace("nobody at 3", x, NONE, NONE);
        peace("no MEN", Due.told(ONE + NET + "jumper weight 1 at 0;"), NONE, NONE);
    }

    /** 32: "-2: there is no such NET"; 33: "-2 likewise". */
    static void peaceOfNone() {
        OppositeNets x = angry(9, 25);
        Edge.refused("peace(?)", 0, 0, x::peace, -2);
        Edge.refused("mends(?)", 0, 0, x::mends, -2);
        OppositeNets two = two(8, 1, 1);
        Edge.refused("of two: peace(?)", 0, 1, two::peace, -2);
        Edge.refused("of two: mends(?)", 0, 1, two::mends, -2);
        Due.is("no STREET: peace", new OppositeNets().peace(0), -2);
        Due.is("no STREET: mends", new OppositeNets().mends(0), -2);
        Due.is("no NETS: peace", Due.told(ONE).peace(0), -2);
        Due.is("no NETS: mends", Due.told(ONE).mends(0), -2);
    }

    // ---- Promise 34: harm ----

    /** 34: "By how much less": 0 by who stands nowhere, or where nothing is carried; 240 at most. */
    static void harmFromNoneToAll() {
        OppositeNets x = Due.told(ONE + Edge.men(5, 60) + NET + Edge.stand(0, 0));
        Due.is("who stands nowhere", x.harm(4), 0);
        for (int m = 0; m < 4; m++) {
            Due.is("harm(" + m + ")", x.harm(m), 240);
        }
        x.mend(0, 0, 0);
        Due.is("it CARRIES nothing", x.harm(3), 0);
    }

    /** 34: "all NETS .. together": what the other one CARRIES is not less. */
    static void harmOfAllTogether() {
        OppositeNets x = Due.told(TWO + Edge.men(4, 7) + Edge.men(4, 9) + NETS + Edge.stand(0, 0) + Edge.stand(1, 4));
        Due.is("of net 0", x.harm(3), 28);
        Due.is("of net 1", x.harm(4), 36);
        Due.is("he stands still", x.man(4, 2), 1);
        Due.is("all is carried still", x.net(1, 4), 36);
    }

    /** 34, 36: "CARRY together": less by QUARRELS of each pair. */
    static void harmAndHelpByQuarrels() {
        for (int c = 0; c < 4; c++) {
            OppositeNets x = Due.told(ONE + Edge.men(4, 20) + NET + Edge.stand(0, 0));
            x.anger(c, (c + 1) % 4, 6);
            Due.is("harm, pair " + c, x.harm(3), 8);
            x.anger(c, (c + 1) % 4, 7);
            Due.is("harm of nothing, pair " + c, x.harm(3), 0);
            x.stand(c, NONE, 0);
            Due.is("helps by nothing, pair " + c, x.helps(), NONE);
            x.anger(c, (c + 1) % 4, 6);
            Due.is("helps by 8, pair " + c, x.helps(), 101 * c);
        }
    }

    /** 34: "-1,000: there is none such": below 0, behind the last of five and of nine, no MEN, no STREET. */
    static void harmOfNone() {
        OppositeNets five = Edge.busy();
        Edge.refused("of five: harm(?)", 0, 4, five::harm, -1000);
        OppositeNets nine = Edge.full();
        Edge.refused("of nine: harm(?)", 0, 8, nine::harm, -1000);
        Due.is("no MEN", Due.told(ONE + NET).harm(0), -1000);
        Due.is("no STREET", new OppositeNets().harm(0), -1000);
        Due.is("no STREET, NONE", new OppositeNets().harm(-1), -1000);
    }

    // ---- Promise 35: key ----

    /** 35: "the first of several": all alike, none at all, the last one alone. */
    static void keyTheFirstOfSeveral() {
        Due.is("all by nothing", Due.told(ONE + Edge.men(9, 60)).key(), 0);
        Due.is("four by the same", Due.told(ONE + Edge.men(8, 60) + NET + Edge.stand(0, 4)).key(), 4);
        OppositeNets x = Due.told(TWO + Edge.men(9, 7) + NETS + Edge.stand(0, 0) + Edge.stand(1, 5));
        Due.is("all by 28", x.key(), 0);
        x.mend(0, 0, 6);
        Due.is("net 1 by more", x.key(), 5);
        Due.is("one MAN", Due.told(ONE + Edge.men(1, 1)).key(), 0);
    }

    /** 35: "NONE: there are no MEN; -2: there is no STREET". */
    static void keyOfNone() {
        Due.is("no MEN", Due.told(ONE + NET).key(), NONE);
        Due.is("no STREET", new OppositeNets().key(), -2);
    }

    // ---- Promise 36: helps ----

    /** 36: "100 times the MAN, 10 times the NET and the CORNER": the greatest is 813, the least 0. */
    static void helpsFromLeastToGreatest() {
        OppositeNets last = Due.told(TWO + Edge.men(7, 5) + "man 0 strength 5; man 1 strength 5; " + NETS
                + Edge.stand(0, 0) + "stands 4 at 1 0; stands 5 at 1 1; stands 6 at 1 2;");
        Due.is("MAN 8 at 1 3", last.helps(), 813);
        OppositeNets first = Due.told(ONE + Edge.men(4, 5) + NET + "stands 1 at 0 1; stands 2 at 0 2; stands 3 at 0 3;");
        Due.is("MAN 0 at 0 0", first.helps(), 0);
    }

    /** 36: "the least of several": of MEN who are alike, and of NETS. */
    static void helpsTheLeastOfSeveral() {
        OppositeNets x = Due.told(TWO + Edge.men(8, 5) + NETS
                + "stands 0 at 0 0; stands 1 at 0 1; stands 2 at 0 2; stands 3 at 1 0; stands 4 at 1 1; stands 5 at 1 3;");
        Due.is("6 or 7, at 0 3 or 1 2", x.helps(), 603);
        x.mend(0, 0, 4);
        Due.is("at net 1 by more", x.helps(), 612);
        x.truce(0, 1, 1);
        Due.is("nobody WILL", x.helps(), NONE);
    }

    /** 36: "if that is more": by nothing is not more, by 4 is. */
    static void helpsIfThatIsMore() {
        OppositeNets x = Due.told(ONE + Edge.men(4, 1) + NET + "stands 0 at 0 0; stands 1 at 0 1; stands 2 at 0 2;");
        Due.is("by 4", x.helps(), 303);
        x.mend(0, 1, 0);
        Due.is("by 0", x.helps(), NONE);
        OppositeNets y = Due.told(ONE + Edge.men(4, 1) + NET + "stands 0 at 0 0; stands 1 at 0 1;");
        Due.is("one is not enough", y.helps(), NONE);
    }

    /** 36: "The MAN, nowhere as yet", "nobody there", "NONE: none": all stand, all CORNERS are taken, no MEN, no NETS. */
    static void helpsOfNobody() {
        Due.is("all stand", Due.told(TWO + Edge.men(4, 5) + NETS + "stands 0 at 0 0; stands 1 at 0 1; stands 2 at 0 2; "
                + "stands 3 at 1 0;").helps(), NONE);
        Due.is("all CORNERS are taken", Due.told(ONE + Edge.men(4, 5) + "man 1 strength 60; " + NET + Edge.stand(0, 0))
                .helps(), NONE);
        Due.is("no MEN", Due.told(ONE + NET).helps(), NONE);
        Due.is("no NETS", Due.told(ONE + Edge.men(9, 5)).helps(), NONE);
        Due.is("no MEN, no NETS", Due.told(ONE).helps(), NONE);
    }

    /** 36: "-2: there is no STREET": new, and of no LINES. */
    static void helpsWithoutAStreet() {
        OppositeNets x = new OppositeNets();
        Due.is("new", x.helps(), -2);
        Due.read(x, ONE);
        Due.is("a STREET", x.helps(), NONE);
        x.street();
        Due.is("no LINES", x.helps(), -2);
    }

    // ---- nothing is changed by asking ----

    /** 24 to 31: behind "-2", "-6", "NONE" all stays as it was, and behind answers all stand where they did. */
    static void standingsLeaveAll() {
        OppositeNets x = Edge.busy();
        Edge.stays("best, post, rows, safe, placed, ways, quarrels, where", x, () -> {
            x.best(0);
            x.best(2);
            x.post(1, 3);
            x.post(0, 4);
            x.rows(0, 4);
            x.rows(0, -1);
            x.safe();
            x.placed(0, 0);
            x.placed(0, 4);
            x.ways();
            x.quarrels();
            x.where(0, 0);
            x.where(0, 2);
        });
    }

    /** 32 to 36: "if a MAN stood nowhere": he stands as he did behind it; behind "-2", "-1,000" all stays as it was. */
    static void whatIfsLeaveAll() {
        OppositeNets x = Edge.busy();
        x.stand(0, NONE, 0);
        Edge.stays("peace, mends, harm, key, helps", x, () -> {
            x.peace(0);
            x.peace(2);
            x.mends(1);
            x.mends(-1);
            for (int m = -1; m <= 5; m++) {
                x.harm(m);
            }
            x.key();
            x.helps();
        });
    }
}
