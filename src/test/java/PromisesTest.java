/** For each promise, answers worked out by hand: ordinary ones, edges and refusals. */
public final class PromisesTest {
    private static final int NONE = OppositeNets.NONE;

    private static final String STREET = Due.STREET;

    private static final String HEAD = "street houses 4 storeys 6 ; ";

    public static void main(String[] args) {
        newObject();
        tape();
        streets();
        faultsOfTokens();
        faultsOfNumbers();
        faultsOfThings();
        parts();
        relations();
        holding();
        wetHolding();
        jumping();
        lasting();
        standing();
        standings();
        safety();
        safetyOfTwo();
        quarrelling();
        wheres();
        wheresOfTwoNets();
        peace();
        harms();
        helping();
        roads();
        routes();
        game();
        cats();
        seeing();
        shares();
        fairness();
        changes();
        nights();
        counts();
        images();
        slots();
        pastes();
        Due.close("PromisesTest");
    }

    private static void due(String call, long got, long want) {
        Due.is(call, got, want);
    }

    // 1
    private static void newObject() {
        OppositeNets x = new OppositeNets();
        for (int what = 0; what <= 9; what++) {
            due("1 count(" + what + ")", x.count(what), 0);
        }
        due("1 NONE", OppositeNets.NONE, -1);
        due("1 safe()", x.safe(), -2);
        due("1 back(0)", x.back(0), -6);
        due("1 write(0, 0, 0)", x.write(0, 0, 0), -6);
        due("1 fault(0)", x.fault(0), 0);
        due("1 fault(1)", x.fault(1), NONE);
    }

    // 2, 3
    private static void tape() {
        OppositeNets x = new OppositeNets();
        for (int i = 1; i <= 70; i++) {
            due("2 feed", x.feed(0x20202020, 0x20202020, 0x20202020, 0x20202020, 0x20202020), 20 * i);
        }
        due("2 feed, full", x.feed(0, 0, 0, 0, 0), NONE);
        due("2 none came", x.count(8), 1400);
        due("3 end(1401)", x.end(1401), NONE);
        due("3 end(-1)", x.end(-1), NONE);
        due("3 still", x.count(8), 1400);
        due("3 end(1381)", x.end(1381), 1381);
        due("2 feed, one too many", x.feed(0, 0, 0, 0, 0), NONE);
        due("3 end(1380)", x.end(1380), 1380);
        due("2 feed, just so", x.feed(0x20202020, 0x20202020, 0x20202020, 0x20202020, 0x0a0a0a0a), 1400);
        due("4 blanks alone", x.street(), 0);
        due("3 end(0)", x.end(0), 0);
        due("2 the highest first", x.feed(0x20202073, 0x74726565, 0x74207879, 0, 0), 20);
        due("3 end(12)", x.end(12), 12);
        due("4", x.street(), -4);
        due("5", x.fault(0), 1);
        due("5", x.fault(1), 10);
    }

    // 4
    private static void streets() {
        OppositeNets x = new OppositeNets();
        due("4 lines", Due.read(x, STREET), 23);
        due("4 tape empty", x.count(8), 0);
        due("4 no fault", x.fault(0), 0);
        due("5 no place", x.fault(1), NONE);
        due("4 jump", x.jump(0), 1);
        due("4 a fault", Due.read(x, "street houses 2 storeys 1 ; window 2 1 ;"), -4);
        due("4 tape empty", x.count(8), 0);
        due("4 all else stays", x.count(0), 3);
        due("4 jumps stay", x.count(6), 1);
        due("4 lines stay", x.count(7), 23);
        due("5 fault", x.fault(0), 2);
        due("5 place", x.fault(1), 35);
        due("5 fault(2)", x.fault(2), NONE);
        due("5 fault(-1)", x.fault(-1), NONE);
        due("4 another", Due.read(x, "street houses 2 storeys 1;window 1 1;"), 2);
        due("4 no jumps", x.count(6), 0);
        due("4 no men", x.count(3), 0);
        due("4 the same again", Due.read(x, STREET), 23);
        due("4 nothing", x.street(), 0);
        due("4 there is none", x.safe(), -2);
        due("4 no houses", x.count(0), 0);
        due("4 no lines", x.count(7), 0);
    }

    private static void fault(String text, int kind, int place) {
        OppositeNets x = new OppositeNets();
        due("4 " + text, Due.read(x, text), -4);
        due("5 fault(0) of " + text, x.fault(0), kind);
        due("5 fault(1) of " + text, x.fault(1), place);
    }

    private static void fine(String text, int lines) {
        OppositeNets x = new OppositeNets();
        due("4 " + text, Due.read(x, text), lines);
        due("5 fault(0) of " + text, x.fault(0), 0);
    }

    private static void faultsOfTokens() {
        fault("window 0 1;", 1, 0);
        fault(";", 1, 0);
        fault("3", 1, 0);
        fault(" \n\tstreet", 1, 2);
        fault("Street houses 2 storeys 1;", 1, 0);
        fault("streets houses 2 storeys 1;", 1, 0);
        fault("stree", 1, 0);
        fault("streetz houses 2 storeys 1;", 1, 0);
        fault("street zhouses 2 storeys 1;", 1, 7);
        fault("street houses9a", 2, 13);
        fault("street", 1, 6);
        fault("street  ", 1, 8);
        fault("street houses 2 storeys 1", 1, 25);
        fault("street houses 2 storeys 1 \n ", 1, 28);
        fault("street houses x storeys 1;", 1, 14);
        fault("street houses 2 storeys 1 1;", 1, 26);
        fault("street houses 2 storeys 1;;", 1, 26);
        fault("street houses 2 storeys 1; street houses 2 storeys 1;", 1, 27);
        fault("street houses 2 storeys 1; door", 1, 27);
        fault("street houses 2 storeys 1; window 0 1 \u00e4", 1, 38);
        fault("street houses 2 storeys 1; window 0 -1;", 1, 36);
        fault("street 2", 1, 7);
        fine("street houses 2 storeys 1;", 1);
        fine("street\nhouses2storeys1;", 1);
        fine("street houses 0000000000000000002 storeys 1;window0 1;", 2);
        fault("street houses 2 storeys 1;window01;", 1, 34);
    }

    private static void faultsOfNumbers() {
        fault("street houses 1 storeys 1;", 2, 14);
        fault("street houses 5 storeys 1;", 2, 14);
        fault("street houses 4294967298 storeys 1;", 2, 14);
        fault("street houses 99999999999999999999999 storeys 1;", 2, 14);
        fault("street houses 2 storeys 0;", 2, 24);
        fault("street houses 2 storeys 7;", 2, 24);
        fine("street houses 2 storeys 006;", 1);
        int at = HEAD.length();
        fault(HEAD + "window 4 1;", 2, at + 7);
        fault(HEAD + "window 0 0;", 2, at + 9);
        fault(HEAD + "window 0 7;", 2, at + 9);
        fault(HEAD + "man 4 strength 1;", 2, at + 4);
        fault(HEAD + "man 0 strength 0;", 2, at + 15);
        fault(HEAD + "man 0 strength 61;", 2, at + 15);
        fine(HEAD + "man 0 strength 60;man 0 strength 1;", 3);
        fault(HEAD + "feud 0 4;", 2, at + 7);
        fault(HEAD + "feud 1 1;", 2, at + 7);
        fine(HEAD + "feud 1 2;feud 2 1;", 3);
        fault(HEAD + "road 1 1 3;", 2, at + 7);
        fault(HEAD + "road 1 2 0;", 2, at + 9);
        fault(HEAD + "road 1 2 100;", 2, at + 9);
        fine(HEAD + "road 1 2 99;road 1 2 1;", 3);
        fault(HEAD + "jumper weight 1 at 0;", 2, at + 19);
        fault(HEAD + "window 0 1;jumper weight 0 at 0;", 2, at + 25);
        fault(HEAD + "window 0 1;jumper weight 100 at 0;", 2, at + 25);
        fine(HEAD + "window 0 1;jumper weight 99 at 0;", 3);
    }

    private static void faultsOfThings() {
        String men = HEAD + "man 0 strength 1;man 0 strength 2;window 1 1;window 1 1;";
        int at = men.length();
        fault(men + "quarrel 0 2 1;", 2, at + 10);
        fault(men + "quarrel 1 1 1;", 2, at + 10);
        fault(men + "quarrel 0 1 0;", 2, at + 12);
        fault(men + "quarrel 0 1 10;", 2, at + 12);
        fault(men + "net at 2 knots 1 1 1 1 wears 0;", 2, at + 7);
        fault(men + "net at 0 knots 0 1 1 1 wears 0;", 2, at + 15);
        fault(men + "net at 0 knots 1 1 1 100 wears 0;", 2, at + 21);
        fault(men + "net at 0 knots 1 1 1 wears 0;", 1, at + 21);
        fault(men + "net at 0 knots 1 1 1 1 wears 10;", 2, at + 29);
        fault(men + "net at 0 knots 1 1 1 1 wears 0 dry;", 1, at + 31);
        fault(men + "net at 0 knots 1 1 1 1 wears 0 wet wet;", 1, at + 35);
        String net = men + "net at 0 knots 1 1 1 1 wears 9 wet;";
        int from = net.length();
        fault(net + "net at 0 knots 1 1 1 1 wears 0;", 2, from + 7);
        fault(net + "stands 2 at 0 0;", 2, from + 7);
        fault(net + "stands 0 at 1 0;", 2, from + 12);
        fault(net + "stands 0 at 0 4;", 2, from + 14);
        fault(net + "stands 0 at 0 1;stands 0 at 0 2;", 2, from + 16 + 7);
        fault(net + "stands 0 at 0 1;stands 1 at 0 1;", 2, from + 16 + 14);
        fine(net + "stands 0 at 0 1;stands 1 at 0 3;", 8);
        String two = net + "net at 1 knots 99 1 1 1 wears 0;";
        fault(two + "net at 0 knots", 3, two.length());
        String nine = "street houses 2 storeys 1;" + "window 0 1;".repeat(9);
        fine(nine, 10);
        fault(nine + "window 9 9", 3, nine.length());
        String men9 = "street houses 2 storeys 1;" + "man 0 strength 1;".repeat(9);
        fine(men9, 10);
        fault(men9 + "man", 3, men9.length());
        String jumpers = "street houses 2 storeys 1;window 0 1;" + "jumper weight 1 at 0;".repeat(9);
        fine(jumpers, 11);
        fault(jumpers + "jumper weight 1 at 0;", 3, jumpers.length());
    }

    // 6 to 10
    private static void parts() {
        OppositeNets x = Due.told(STREET);
        due("6", x.window(1, 0), 1);
        due("6", x.window(1, 1), 3);
        due("6", x.window(1, 2), 1);
        due("6", x.window(2, 2), NONE);
        due("6 -2", x.window(3, 0), -2);
        due("6 -2", x.window(-1, 0), -2);
        due("6 -2", x.window(0, 3), -2);
        due("6 -2", x.window(0, -1), -2);
        due("7", x.man(3, 0), 2);
        due("7", x.man(3, 1), 30);
        due("7", x.man(3, 2), 0);
        due("7", x.man(3, 3), 3);
        due("7", x.man(4, 2), NONE);
        due("7", x.man(4, 3), NONE);
        due("7 -2", x.man(5, 0), -2);
        due("7 -2", x.man(0, 4), -2);
        due("8", x.net(1, 0), 1);
        due("8", x.net(0, 1), 2);
        due("8", x.net(0, 2), 0);
        due("8", x.net(1, 2), 1);
        due("8", x.net(0, 3), 32);
        due("8", x.net(1, 3), 9);
        due("8", x.net(0, 4), 36);
        due("8", x.net(1, 4), 0);
        due("8 -2", x.net(2, 0), -2);
        due("8 -2", x.net(-1, 0), -2);
        due("8 -2", x.net(0, 5), -2);
        due("9", x.corner(0, 3, 0), 16);
        due("9", x.corner(0, 3, 1), 3);
        due("9", x.corner(1, 3, 1), NONE);
        due("9 -2", x.corner(0, 4, 0), -2);
        due("9 -2", x.corner(0, -1, 0), -2);
        due("9 -2", x.corner(2, 0, 0), -2);
        due("9 -2", x.corner(0, 0, 3), -2);
        due("10", x.jumper(0, 0), 16);
        due("10", x.jumper(0, 1), 0);
        due("10", x.jumper(0, 2), 32);
        due("10 -2", x.jumper(3, 0), -2);
        due("10 -2", x.jumper(0, 3), -2);
        due("8 no need", Due.told(HEAD + "window 0 1;net at 0 knots 1 1 1 1 wears 0;").net(0, 3), 0);
    }

    // 11 to 13
    private static void relations() {
        OppositeNets x = Due.told(STREET);
        due("11", x.quarrel(0, 1), 2);
        due("11", x.quarrel(1, 0), 2);
        due("11", x.quarrel(0, 2), 0);
        due("11 -2", x.quarrel(0, 0), -2);
        due("11 -2", x.quarrel(0, 5), -2);
        due("11 a later one", Due.told(HEAD + "man 0 strength 1;man 0 strength 1;quarrel 0 1 7;quarrel 1 0 3;")
                .quarrel(0, 1), 3);
        due("12", x.feud(1, 2), 1);
        due("12", x.feud(2, 1), 1);
        due("12", x.feud(0, 1), 0);
        due("12 -2", x.feud(1, 1), -2);
        due("12 -2", x.feud(3, 1), -2);
        due("13 own house", x.will(0, 1), 0);
        due("13 feud", x.will(2, 1), 0);
        due("13 feud", x.will(0, 2), 0);
        due("13", x.will(0, 0), 1);
        due("13", x.will(4, 2), 1);
        due("13 -2", x.will(5, 0), -2);
        due("13 -2", x.will(0, 3), -2);
    }

    // 9, 14 to 17
    private static void holding() {
        OppositeNets x = Due.told(STREET);
        due("9 knot", x.corner(0, 0, 2), 10);
        due("9 quarrel", x.corner(0, 1, 2), 9);
        due("9 strength", x.corner(0, 2, 2), 12);
        due("9 knot", x.corner(0, 3, 2), 16);
        due("9 nobody", x.corner(1, 0, 2), 0);
        due("14 holds", x.gives(0, 36), NONE);
        due("14 gives", x.gives(0, 37), 1);
        due("14 holds nothing", x.gives(1, 0), NONE);
        due("14 first of several", x.gives(1, 1), 0);
        due("14 -2", x.gives(0, -1), -2);
        due("14 -2", x.gives(2, 1), -2);
        due("15", x.held(0), 1);
        due("15 nobody holds", x.held(1), 0);
        due("15 no net", x.held(2), 0);
        due("15 -2", x.held(3), -2);
        due("15 -2", x.held(-1), -2);
        due("15 just so", Due.told(STREET.replace("weight 16", "weight 18")).held(0), 1);
        due("15 one more", Due.told(STREET.replace("weight 16", "weight 19")).held(0), 0);
        due("16", x.heaviest(0), 18);
        due("16", x.heaviest(1), 0);
        due("16 -2", x.heaviest(2), -2);
        due("17", x.highest(0, 9), 4);
        due("17", x.highest(0, 10), 3);
        due("17 six at most", x.highest(0, 1), 6);
        due("17 none", x.highest(0, 37), 0);
        due("17 99 may be", x.highest(0, 99), 0);
        due("17 -2", x.highest(0, 0), -2);
        due("17 -2", x.highest(0, 100), -2);
        due("17 -2", x.highest(2, 1), -2);
        due("55 anger", x.anger(0, 1, 9), 2);
        due("9 0 at least", x.corner(0, 1, 2), 0);
        due("8", x.net(0, 4), 0);
        due("55 anger across", x.anger(0, 2, 9), 0);
        due("9 not beside", x.corner(0, 2, 2), 12);
        due("55 anger round", x.anger(0, 3, 1), 0);
        due("9 beside, round", x.corner(0, 3, 2), 16);
        due("53 mend", x.mend(0, 3, 50), 16);
        due("9 beside, round", x.corner(0, 3, 2), 27);
        due("56 feud", x.truce(0, 2, 1), 0);
        due("9 he will not", x.corner(0, 3, 2), 0);
    }

    private static void wetHolding() {
        OppositeNets x = Due.told(STREET);
        due("54", x.wet(0, 1), 0);
        due("9 wet", x.corner(0, 0, 2), 5);
        due("9 wet", x.corner(0, 3, 2), 8);
        due("8 wet", x.net(0, 4), 20);
        due("53", x.mend(0, 0, 11), 10);
        due("9 half of it, cut", x.corner(0, 0, 2), 5);
        due("54", x.wet(0, 0), 1);
        due("9 dry", x.corner(0, 0, 2), 11);
        due("54 -2", x.wet(2, 0), -2);
        due("54 -2", x.wet(0, 2), -2);
        due("54 -2", x.wet(0, -1), -2);
    }

    // 18 to 20
    private static void jumping() {
        OppositeNets x = Due.told(STREET);
        due("20 none yet", x.led(0, 0), NONE);
        due("19 none yet", x.undo(), -5);
        due("18 held", x.jump(0), 1);
        due("18 wears", x.corner(0, 0, 0), 6);
        due("18 wears", x.corner(0, 3, 0), 12);
        due("18 not held", x.jump(0), 0);
        due("18 gives", x.corner(0, 0, 0), 0);
        due("18 else as it was", x.corner(0, 1, 0), 8);
        due("18 not held", x.jump(1), 0);
        due("18 the first gives", x.corner(1, 0, 0), 0);
        due("18 -5", x.jump(2), -5);
        due("18 -2", x.jump(3), -2);
        due("18 -2", x.jump(-1), -2);
        due("20", x.led(0, 0), 0);
        due("20", x.led(0, 1), 1);
        due("20", x.led(0, 2), NONE);
        due("20", x.led(1, 1), 0);
        due("20", x.led(1, 2), 0);
        due("20", x.led(2, 0), 1);
        due("20 NONE", x.led(3, 0), NONE);
        due("20 NONE", x.led(-1, 0), NONE);
        due("20 -2", x.led(0, 3), -2);
        due("20 -2", x.led(9, -1), -2);
        due("59", x.count(6), 3);
        due("53 mend", x.mend(0, 0, 70), 0);
        due("53 mend", x.mend(0, 3, 71), 12);
        due("19", x.undo(), 2);
        due("19 mended stays", x.corner(0, 0, 0), 70);
        due("19", x.corner(1, 0, 0), 9);
        due("19", x.undo(), 1);
        due("19 as ahead of it", x.corner(0, 0, 0), 6);
        due("19 all four", x.corner(0, 3, 0), 12);
        due("19", x.undo(), 0);
        due("19", x.corner(0, 0, 0), 10);
        due("19 -5", x.undo(), -5);
        due("19 -2", new OppositeNets().undo(), -2);
        due("20 -2", new OppositeNets().led(0, 0), -2);
        for (int i = 0; i < 60; i++) {
            due("18", x.jump(1), 0);
        }
        due("18 there were 60", x.jump(1), -5);
        due("18 -2 ahead", x.jump(9), -2);
        due("19", x.undo(), 59);
        due("18 room again", x.jump(1), 0);
        OppositeNets y = Due.told(STREET.replace("wears 2", "wears 9").replace("weight 16", "weight 1"));
        due("18", y.jump(0), 1);
        due("18 0 at least", y.corner(0, 3, 0), 0);
        due("18", y.corner(0, 0, 0), 0);
    }

    // 21
    private static void lasting() {
        OppositeNets x = Due.told(STREET);
        due("21", x.lasts(0, 1), 3);
        due("21", x.lasts(0, 8), 2);
        due("21", x.lasts(0, 18), 1);
        due("21", x.lasts(0, 19), 0);
        due("21 nothing wears", x.corner(0, 0, 0), 10);
        due("21 no jumps", x.count(6), 0);
        due("21", x.lasts(1, 1), 0);
        due("21 99 may be", x.lasts(0, 99), 0);
        due("21 -2", x.lasts(2, 1), -2);
        due("21 -2", x.lasts(0, 0), -2);
        due("21 -2", x.lasts(0, 100), -2);
        due("21 without wear", Due.told(STREET.replace("wears 2", "wears 0")).lasts(0, 18), 999);
        due("21 without wear", Due.told(STREET.replace("wears 2", "wears 0")).lasts(0, 19), 0);
    }

    // 22, 23
    private static void standing() {
        OppositeNets x = Due.told(STREET);
        due("22 from nowhere", x.stand(4, 1, 2), NONE);
        due("22 where he stood", x.stand(4, 1, 3), 12);
        due("22 left", x.corner(1, 2, 1), NONE);
        due("22 where he stands", x.stand(4, 1, 3), 13);
        due("22 another one", x.stand(4, 0, 0), -2);
        due("22 stays", x.man(4, 3), 3);
        due("22 -2", x.stand(5, 0, 0), -2);
        due("22 -2", x.stand(4, 2, 0), -2);
        due("22 -2", x.stand(4, -2, 0), -2);
        due("22 -2", x.stand(4, 1, 4), -2);
        due("22 -2", x.stand(4, 1, -1), -2);
        due("22 nowhere", x.stand(3, -1, 9), 3);
        due("22 nowhere", x.man(3, 3), NONE);
        due("22 nowhere", x.stand(3, -1, 0), NONE);
        due("22 free", x.corner(0, 3, 1), NONE);
        due("23", x.change(3, 4), 0);
        due("23", x.man(3, 2), 1);
        due("23", x.man(3, 3), 3);
        due("23", x.man(4, 2), NONE);
        due("23", x.corner(1, 3, 1), 3);
        due("23 both stand", x.change(0, 3), 0);
        due("23", x.corner(0, 0, 1), 3);
        due("23", x.corner(1, 3, 1), 0);
        due("23 both", x.change(0, 3), 0);
        due("22", x.stand(3, -1, 0), 13);
        due("23 neither", x.change(3, 4), 0);
        due("23", x.man(3, 3), NONE);
        due("23 -2", x.change(1, 1), -2);
        due("23 -2", x.change(1, 5), -2);
    }

    // 24 to 26
    private static void standings() {
        OppositeNets x = Due.told(STREET);
        due("24", x.best(0), 40);
        due("25", x.post(0, 0), 0);
        due("25", x.post(0, 1), 2);
        due("25", x.post(0, 2), 1);
        due("25", x.post(0, 3), 3);
        due("24 nobody will", x.best(1), 0);
        due("25 the first row", x.post(1, 3), 3);
        due("26", x.rows(0, 40), 8);
        due("26", x.rows(0, 37), 8);
        due("26", x.rows(0, 36), 24);
        due("26", x.rows(0, 1), 24);
        due("26 all", x.rows(0, 0), 120);
        due("26 none", x.rows(0, 41), 0);
        due("26 -2", x.rows(0, -1), -2);
        due("26 -2", x.rows(2, 0), -2);
        due("24 -2", x.best(2), -2);
        due("25 -2", x.post(0, 4), -2);
        due("25 -2", x.post(2, 0), -2);
        OppositeNets y = Due.told(HEAD + "window 0 1;net at 0 knots 1 1 1 1 wears 0;" + "man 1 strength 1;".repeat(3));
        due("24 -6", y.best(0), -6);
        due("25 -6", y.post(0, 0), -6);
        due("26 -6", y.rows(0, 0), -6);
        due("31 -6", y.where(0, 0), -6);
        due("24 -2", y.best(1), -2);
        due("25 -2 ahead", y.post(0, 4), -2);
        due("26 -2 ahead", y.rows(0, -1), -2);
    }

    // 27 to 29
    private static void safety() {
        OppositeNets x = Due.told(STREET);
        due("27 net 1 can't", x.safe(), NONE);
        due("28", x.placed(0, 0), NONE);
        due("29", x.ways(), 0);
        OppositeNets y = Due.told(STREET.replace("jumper weight 3 at 1 ;", ""));
        due("27", y.safe(), 0);
        due("28", y.placed(0, 0), 0);
        due("28", y.placed(0, 1), 2);
        due("28", y.placed(0, 2), 1);
        due("28", y.placed(0, 3), 3);
        due("28 nobody at the other", y.placed(1, 0), NONE);
        due("29 by need 32", y.ways(), 24);
        due("27 stands stay", y.man(0, 3), 0);
        due("28 -2", y.placed(2, 0), -2);
        due("28 -2", y.placed(0, 4), -2);
        OppositeNets z = Due.told(HEAD + "window 0 1;net at 0 knots 1 1 1 1 wears 0;");
        due("27 none is needed", z.safe(), 0);
        due("29 one row", z.ways(), 1);
        due("28", z.placed(0, 0), NONE);
        due("29 -2", new OppositeNets().ways(), -2);
        due("27 -2", new OppositeNets().safe(), -2);
        due("28 -2", new OppositeNets().placed(0, 0), -2);
    }

    private static void safetyOfTwo() {
        String eight = "street houses 2 storeys 1;window 0 1;window 0 1;"
                + "net at 0 knots 9 9 9 9 wears 0;net at 1 knots 9 9 9 9 wears 0;"
                + "jumper weight 12 at 0;jumper weight 4 at 1;" + "man 1 strength 3;".repeat(7) + "man 1 strength 1;";
        OppositeNets x = Due.told(eight);
        due("27", x.safe(), 0);
        due("28", x.placed(0, 3), 3);
        due("28", x.placed(1, 0), 4);
        due("28", x.placed(1, 3), 7);
        due("29 man 7 at net 1 alone", x.ways(), 4 * 5040);
        OppositeNets y = Due.told(eight.replace("strength 3", "strength 60") + "quarrel 0 1 1;quarrel 0 2 1;quarrel 0 3 1;");
        due("27", y.safe(), 0);
        due("28", y.placed(0, 0), 0);
        due("28", y.placed(0, 1), 4);
        due("28", y.placed(0, 2), 1);
        due("28", y.placed(0, 3), 5);
        due("28", y.placed(1, 0), 2);
        due("28", y.placed(1, 1), 3);
    }

    // 30
    private static void quarrelling() {
        OppositeNets x = Due.told(STREET);
        due("30", x.quarrels(), 2);
        x.anger(3, 0, 4);
        due("30 round", x.quarrels(), 6);
        x.anger(0, 2, 9);
        due("30 across", x.quarrels(), 6);
        x.anger(0, 4, 9);
        due("30 nowhere", x.quarrels(), 6);
        x.stand(4, 1, 0);
        due("30 another net", x.quarrels(), 6);
        due("30 -2", new OppositeNets().quarrels(), -2);
    }

    // 31
    private static void wheres() {
        OppositeNets x = Due.told(STREET);
        due("31", x.where(0, 0), 0);
        due("31", x.where(0, 1), 1);
        due("31 wet, not where net 0 is", x.where(1, 0), 1);
        due("31 wet: nobody will", x.where(1, 1), 0);
        due("31 -2", x.where(2, 0), -2);
        due("31 -2", x.where(-1, 0), -2);
        due("31 -2", x.where(0, 2), -2);
        due("31 -2", x.where(0, -1), -2);
        due("31 no street", new OppositeNets().where(0, 0), -2);
        String s = "street houses 2 storeys 3;window 0 3;window 1 1;window 1 3;net at 0 knots 5 5 5 5 wears 0;"
                + "man 0 strength 5;".repeat(4)
                + "jumper weight 20 at 1;jumper weight 21 at 1;jumper weight 6 at 2;jumper weight 1 at 0;";
        OppositeNets y = Due.told(s);
        due("31 the first of several", y.where(0, 0), 1);
        due("31", y.where(0, 1), 1);
        OppositeNets z = Due.told(s + "jumper weight 2 at 2;");
        due("31", z.where(0, 0), 2);
        due("31", z.where(0, 1), 2);
    }

    // 31
    private static void wheresOfTwoNets() {
        String s = "street houses 2 storeys 1;window 0 1;window 0 1;window 0 1;" + "man 1 strength 9;".repeat(4)
                + "net at 0 knots 9 9 9 9 wears 0;net at 1 knots 9 9 9 9 wears 0;jumper weight 1 at 1;";
        OppositeNets x = Due.told(s);
        due("31 another net is there", x.where(0, 0), 0);
        due("31 another net is there", x.where(0, 1), 0);
        due("31 its own is none other", x.where(1, 0), 1);
        due("31 its own is none other", x.where(1, 1), 1);
        OppositeNets y = Due.told(s + "jumper weight 36 at 2;jumper weight 37 at 2;");
        due("31 a bare one", y.where(0, 0), 2);
        due("31 a bare one", y.where(0, 1), 1);
        due("31 the first of several", y.where(1, 0), 1);
        OppositeNets z = Due.told(s + "jumper weight 1 at 0;jumper weight 2 at 0;");
        due("31 most are at the other net", z.where(1, 0), 1);
        due("31 most are at the other net", z.where(1, 1), 1);
        due("31", z.where(0, 1), 2);
        OppositeNets first = Due.told(s.replace("jumper weight 1 at 1;", ""));
        due("31 nobody jumps: the first that is free", first.where(0, 0), 0);
        due("31 nobody jumps: the first that is free", first.where(1, 0), 1);
        due("31 nobody jumps", first.where(1, 1), 0);
    }

    // 32, 33
    private static void peace() {
        OppositeNets x = Due.told(STREET);
        due("32 none needed", x.peace(0), 0);
        due("33", x.mends(0), 0);
        due("32 none do", x.peace(1), NONE);
        due("33", x.mends(1), NONE);
        x.anger(0, 1, 9);
        due("32", x.peace(0), 1);
        due("33", x.mends(0), 1);
        x.anger(0, 3, 9);
        due("33", x.mends(0), 9);
        due("32", x.peace(0), 2);
        x.anger(0, 3, 1);
        due("33 bears it", x.mends(0), 1);
        due("32 -2", x.peace(2), -2);
        due("33 -2", x.mends(-1), -2);
        due("32 quarrels stay", x.quarrel(0, 1), 9);
        String s = "street houses 2 storeys 1;window 0 1;net at 0 knots 9 9 9 9 wears 0;" + "man 1 strength 6;".repeat(4)
                + "stands 0 at 0 0;stands 1 at 0 1;stands 2 at 0 2;stands 3 at 0 3;jumper weight 12 at 0;"
                + "quarrel 0 1 1;quarrel 1 2 1;quarrel 2 3 1;quarrel 3 0 1;";
        OppositeNets y = Due.told(s);
        due("32 two across", y.peace(0), 2);
        due("33 the least", y.mends(0), 5);
        y.anger(1, 2, 0);
        due("32 one between two", y.peace(0), 1);
        due("33 fewest ahead of least", y.mends(0), 8);
    }

    // 34, 35
    private static void harms() {
        OppositeNets x = Due.told(STREET);
        due("34", x.harm(0), 36);
        due("34", x.harm(3), 36);
        due("34 nowhere", x.harm(4), 0);
        due("34 all stand", x.man(0, 3), 0);
        due("34 -1000", x.harm(5), -1000);
        due("34 -1000", x.harm(-1), -1000);
        due("35", x.key(), 0);
        x.stand(0, -1, 0);
        due("34 carries nothing", x.harm(1), 0);
        due("35 the first", x.key(), 0);
        x.stand(4, 0, 0);
        due("34 will not", x.harm(4), 0);
        x.stand(4, -1, 0);
        x.stand(2, -1, 0);
        x.stand(2, 0, 0);
        x.stand(0, 0, 2);
        due("35", x.key(), 0);
        due("35 no men", Due.told(HEAD).key(), NONE);
        due("35 -2", new OppositeNets().key(), -2);
    }

    // 36
    private static void helping() {
        OppositeNets x = Due.told(STREET);
        due("36 none", x.helps(), NONE);
        x.stand(2, -1, 0);
        due("36", x.helps(), 202);
        due("36 stays", x.man(2, 2), NONE);
        x.stand(3, -1, 0);
        due("36 two are wanting", x.helps(), NONE);
        due("36 -2", new OppositeNets().helps(), -2);
        String s = "street houses 2 storeys 1;window 0 1;net at 0 knots 9 9 9 9 wears 0;" + "man 1 strength 6;".repeat(5)
                + "man 1 strength 7;stands 0 at 0 0;stands 1 at 0 1;stands 2 at 0 3;";
        due("36 the least", Due.told(s).helps(), 302);
        due("36 most", Due.told(s + "quarrel 3 1 1;").helps(), 402);
    }

    // 37, 39, 40
    private static void roads() {
        OppositeNets x = Due.told(STREET);
        due("37", x.alarm(0, 1), 5);
        due("37 by another", x.alarm(0, 2), 12);
        due("37", x.alarm(2, 0), 12);
        due("37 itself", x.alarm(1, 1), 0);
        due("37 -2", x.alarm(3, 0), -2);
        due("37 -2", x.alarm(0, -1), -2);
        due("39", x.last(0), 12);
        due("39", x.last(1), 7);
        due("39 -2", x.last(3), -2);
        due("40", x.middle(), 1);
        due("40 -2", new OppositeNets().middle(), -2);
        OppositeNets y = Due.told("street houses 3 storeys 1;road 0 1 9;road 1 0 4;");
        due("37 a later one", y.alarm(1, 0), 4);
        due("37 no way", y.alarm(0, 2), NONE);
        due("38 no way", y.route(0, 2, 0), NONE);
        due("39 not all", y.last(0), NONE);
        due("40 from none", y.middle(), NONE);
        OppositeNets z = Due.told("street houses 2 storeys 1;road 0 1 9;");
        due("40 the first", z.middle(), 0);
    }

    // 38
    private static void routes() {
        OppositeNets x = Due.told(STREET);
        due("38", x.route(0, 2, 0), 0);
        due("38", x.route(0, 2, 1), 1);
        due("38", x.route(0, 2, 2), 2);
        due("38", x.route(0, 2, 3), NONE);
        due("38", x.route(0, 2, -1), NONE);
        due("38", x.route(0, 2, 1000000000), NONE);
        due("38 itself", x.route(1, 1, 0), 1);
        due("38 itself", x.route(1, 1, 1), NONE);
        due("38 -2", x.route(3, 1, 0), -2);
        due("38 -2", x.route(0, 3, 0), -2);
        OppositeNets y = Due.told("street houses 4 storeys 1;road 0 3 6;road 0 2 3;road 2 3 3;road 2 1 1;road 1 3 2;");
        due("38 the least row", y.route(0, 3, 1), 2);
        due("38", y.route(0, 3, 2), 1);
        due("38", y.route(0, 3, 3), 3);
        due("38 back", y.route(3, 0, 1), 0);
        due("38 back", y.route(3, 0, 2), NONE);
    }

    // 41, 42
    private static void game() {
        String s = "street houses 3 storeys 2;window 0 1;window 1 2;net at 0 knots 8 8 8 8 wears 0;"
                + "net at 1 knots 8 8 8 8 wears 0;" + "man 2 strength 8;".repeat(8)
                + "stands 0 at 0 0;stands 1 at 0 1;stands 2 at 0 2;stands 3 at 0 3;"
                + "stands 4 at 1 0;stands 5 at 1 1;stands 6 at 1 2;stands 7 at 1 3;"
                + "jumper weight 32 at 0;jumper weight 16 at 0;jumper weight 16 at 1;jumper weight 17 at 1;";
        OppositeNets x = Due.told(s);
        due("41", x.game(0, 1, 0, 0, 0), 4);
        due("41", x.game(0, 1, 0, 0, 1), 2);
        due("41", x.game(0, 1, 1, 0, 0), 7);
        due("41", x.game(0, 1, 1, 0, 1), 0);
        due("41", x.game(0, 1, 0, 1, 0), 2);
        due("41", x.game(0, 1, 0, 1, 1), 5);
        due("41", x.game(0, 1, 1, 1, 0), 5);
        due("41", x.game(0, 1, 1, 1, 1), 3);
        due("41 the other way", x.game(1, 0, 1, 0, 0), 5);
        due("41 no windows", x.game(2, 0, 1, 0, 0), 3);
        x.wet(0, 1);
        due("41 as told", x.game(0, 1, 0, 0, 0), 2);
        due("41 nothing is wetted", x.net(1, 2), 0);
        due("42", x.rests(0, 1), 8);
        due("42", x.rests(1, 2), 8);
        due("41 -2", x.game(0, 0, 0, 0, 0), -2);
        due("41 -2", x.game(0, 3, 0, 0, 0), -2);
        due("41 -2", x.game(0, 1, 2, 0, 0), -2);
        due("41 -2", x.game(0, 1, 0, -1, 0), -2);
        due("41 -2", x.game(0, 1, 0, 0, 2), -2);
        due("42 -2", x.rests(1, 1), -2);
        due("42 -2", x.rests(-1, 1), -2);
    }

    // 43 to 45
    private static void cats() {
        OppositeNets x = new OppositeNets();
        due("43", x.tests(10, 1), 10);
        due("43", x.tests(10, 2), 4);
        due("43", x.tests(11, 2), 5);
        due("43", x.tests(99, 2), 14);
        due("43", x.tests(99, 9), 7);
        due("43", x.tests(99, 1), 99);
        due("43", x.tests(0, 9), 0);
        due("43 -2", x.tests(-1, 1), -2);
        due("43 -2", x.tests(100, 1), -2);
        due("43 -2", x.tests(1, 0), -2);
        due("43 -2", x.tests(1, 10), -2);
        due("44", x.sought(4, 2), 10);
        due("44", x.sought(12, 1), 12);
        due("44", x.sought(12, 9), 4016);
        due("44", x.sought(0, 9), 0);
        due("44 -2", x.sought(13, 1), -2);
        due("44 -2", x.sought(-1, 1), -2);
        due("44 -2", x.sought(1, 0), -2);
        due("44 -2", x.sought(1, 10), -2);
        due("45", x.firstFall(10, 2), 4);
        due("45", x.firstFall(9, 2), 3);
        due("45", x.firstFall(5, 1), 1);
        due("45", x.firstFall(1, 9), 1);
        due("45", x.firstFall(99, 9), 36);
        due("45 -2", x.firstFall(0, 1), -2);
        due("45 -2", x.firstFall(100, 1), -2);
        due("45 -2", x.firstFall(9, 0), -2);
        due("45 -2", x.firstFall(9, 10), -2);
    }

    // 46 to 48
    private static void seeing() {
        OppositeNets x = Due.told(STREET);
        due("46 -6", x.seen(0), -6);
        due("47 -6", x.sure(0, 0), -6);
        due("47 -2 ahead", x.sure(0, 2), -2);
        due("48 -6", x.odd(0), -6);
        due("46 -2", x.seen(4), -2);
        due("47 -2", x.sure(-1, 0), -2);
        due("48 -2", x.odd(4), -2);
        x.row(0, 2, 0);
        due("46 nothing seen", x.seen(0), 4);
        due("47", x.sure(0, 0), 0);
        due("47", x.sure(0, 1), 0);
        due("48", x.odd(0), NONE);
        x.row(0, 2, 4);
        due("46 not three each", x.seen(0), -2);
        x.row(0, 1, 3);
        due("46 force 0 is not held", x.seen(0), 0);
        due("47 none", x.sure(0, 0), NONE);
        due("48", x.odd(0), 0);
        x.write(0, 1, 21);
        due("46 21 is not held: wet", x.seen(0), 2);
        due("47", x.sure(0, 0), 1);
        due("47", x.sure(0, 1), 0);
        due("48 it is dry", x.odd(0), 0);
        x.write(0, 2, 1);
        due("46 21 is held: dry", x.seen(0), 2);
        due("47", x.sure(0, 0), 0);
        due("47", x.sure(0, 1), 1);
        due("48", x.odd(0), NONE);
        x.write(0, 1, 20);
        due("46 20 is held", x.seen(0), 4);
        x.write(0, 2, 2);
        due("46 neither 0 nor 1", x.seen(0), -2);
        x.write(0, 2, 1);
        x.write(0, 0, 2);
        due("46 no net", x.seen(0), -2);
        x.write(0, 0, -1);
        due("47 no net", x.sure(0, 1), -2);
        x.write(0, 0, 0);
        x.write(0, 1, -1);
        due("48 no force", x.odd(0), -2);
        x.write(0, 1, 0x8000);
        due("46 cut to its width", x.seen(0), -2);
        x.row(3, 3, 6);
        x.write(3, 2, 1);
        x.write(3, 3, 1);
        x.write(3, 4, 0x100000000L);
        due("46 eight bytes", x.seen(3), 4);
        x.write(3, 5, 1);
        due("48 the second", x.odd(3), 1);
        x.street();
        due("46 no street", x.seen(0), -2);
        due("46 no street, nothing", x.seen(1), -2);
    }

    // 49, 50
    private static void shares() {
        OppositeNets x = Due.told(STREET);
        due("49", x.corners(1), 2);
        due("49", x.corners(0), 0);
        x.stand(4, 1, 0);
        due("49", x.corners(0), 1);
        due("49 -2", x.corners(3), -2);
        due("50", x.pays(0, 101), 20);
        due("50", x.pays(1, 1000000), 400000);
        due("50", x.pays(1, 0), 0);
        due("50 -2", x.pays(1, -1), -2);
        due("50 -2", x.pays(1, 1000001), -2);
        due("50 -2", x.pays(3, 1), -2);
        OppositeNets y = Due.told(HEAD);
        due("50 nobody", y.pays(0, 5), NONE);
        due("50 -2 ahead", y.pays(0, -5), -2);
    }

    // 51, 52
    private static void fairness() {
        OppositeNets x = Due.told(STREET);
        due("51", x.fair(0, 1, 0), 20);
        due("51", x.fair(0, 1, 1), 1);
        due("51", x.fair(0, 2, 0), 20);
        due("51 adds nothing", x.fair(0, 0, 0), 0);
        due("51 adds nothing", x.fair(0, 0, 1), 1);
        due("52", x.without(0, 0), 40);
        due("52", x.without(0, 1), 0);
        due("51 -2", x.fair(2, 0, 0), -2);
        due("51 -2", x.fair(0, 3, 0), -2);
        due("51 -2", x.fair(0, 0, 2), -2);
        due("52 -2", x.without(2, 0), -2);
        due("52 -2", x.without(0, -1), -2);
        String s = "street houses 4 storeys 1;window 0 1;net at 0 knots 9 9 9 9 wears 0;man 1 strength 2;man 1 strength 3;"
                + "man 1 strength 3;man 2 strength 3;man 2 strength 3;man 3 strength 4;";
        // carried: 12 by 1 and 2, 8 by 1 and 3, 12 by all three; so the shares are 22, 10 and 4 thirds of 36
        OppositeNets y = Due.told(s);
        due("52", y.without(0, 1), 0);
        due("52", y.without(0, 2), 8);
        due("52", y.without(0, 3), 12);
        due("51", y.fair(0, 1, 0), 22);
        due("51", y.fair(0, 1, 1), 3);
        due("51", y.fair(0, 2, 0), 10);
        due("51", y.fair(0, 2, 1), 3);
        due("51", y.fair(0, 3, 0), 4);
        due("51", y.fair(0, 3, 1), 3);
        due("51 men of the house do not hold", y.fair(0, 0, 0), 0);
    }

    // 53 to 56
    private static void changes() {
        OppositeNets x = Due.told(STREET);
        due("53", x.mend(0, 2, 0), 14);
        due("53", x.mend(0, 2, 99), 0);
        due("53", x.corner(0, 2, 0), 99);
        due("53 -2", x.mend(0, 2, 100), -2);
        due("53 -2", x.mend(0, 2, -1), -2);
        due("53 -2", x.mend(0, 4, 1), -2);
        due("53 -2", x.mend(2, 0, 1), -2);
        due("55", x.anger(2, 1, 5), 0);
        due("55", x.anger(1, 2, 0), 5);
        due("55", x.quarrel(2, 1), 0);
        due("55 -2", x.anger(1, 1, 0), -2);
        due("55 -2", x.anger(1, 5, 0), -2);
        due("55 -2", x.anger(1, 2, 10), -2);
        due("55 -2", x.anger(1, 2, -1), -2);
        due("56", x.truce(1, 2, 0), 1);
        due("56", x.feud(2, 1), 0);
        due("56", x.truce(2, 1, 1), 0);
        due("56", x.feud(1, 2), 1);
        due("56 -2", x.truce(1, 1, 1), -2);
        due("56 -2", x.truce(1, 3, 1), -2);
        due("56 -2", x.truce(1, 2, 2), -2);
        due("56 -2", x.truce(1, 2, -1), -2);
    }

    // 57, 58
    private static void nights() {
        // from seed 1 the draws of 32768 are 16838, 5758, 10113, 17515, 31051: of 3, they are 2, 1, 0, 1, 1
        OppositeNets x = Due.told(STREET);
        due("57 no net, nobody, held", x.night(1, 3, 0), 1);
        due("57", x.night(1, 3, 1), 0);
        due("57 knots as they were", x.corner(0, 0, 0), 10);
        due("57 knots as they were", x.corner(1, 0, 0), 9);
        due("57 no jumps", x.count(6), 0);
        due("58", x.years(1, 1, 1), 0);
        due("57 -2", x.night(-1, 1, 0), -2);
        due("57 -2", x.night(2000000001, 1, 0), -2);
        due("57 -2", x.night(1, 0, 0), -2);
        due("57 -2", x.night(1, 61, 0), -2);
        due("57 -2", x.night(1, 1, 2), -2);
        due("57 -2", new OppositeNets().night(1, 1, 0), -2);
        due("58 -2", x.years(-1, 1, 1), -2);
        due("58 -2", x.years(1, 0, 1), -2);
        due("58 -2", x.years(1, 21, 1), -2);
        due("58 -2", x.years(1, 1, 0), -2);
        due("58 -2", x.years(1, 1, 61), -2);
        due("58 -2", new OppositeNets().years(1, 1, 1), -2);
        OppositeNets y = Due.told(STREET.replace("jumper weight 3 at 1 ; jumper weight 5 at 2 ;", ""));
        due("57 wears", y.night(2000000000, 60, 0), 1);
        due("57", y.night(2000000000, 60, 1), 1);
        due("57 all held", y.night(7, 1, 1), NONE);
        due("58", y.years(2000000000, 20, 1), 20);
        due("58", y.years(0, 20, 2), 0);
        OppositeNets z = Due.told(HEAD);
        due("57 no jumpers", z.night(1, 1, 0), 0);
        due("57 no jumpers", z.night(1, 1, 1), NONE);
        due("58 no jumpers", z.years(1, 17, 60), 17);
        due("57 -2 ahead", z.night(1, 61, 1), -2);
    }

    // 59
    private static void counts() {
        OppositeNets x = Due.told(STREET);
        x.jump(0);
        x.feed(1, 2, 3, 4, 5);
        x.row(1, 0, 0);
        x.row(3, 3, 60);
        int[] want = {3, 4, 3, 5, 2, 3, 1, 23, 20, 2};
        for (int what = 0; what < 10; what++) {
            due("59 count(" + what + ")", x.count(what), want[what]);
        }
        due("59 NONE", x.count(10), NONE);
        due("59 NONE", x.count(-1), NONE);
    }

    // 60, 61
    private static void images() {
        OppositeNets x = Due.told(STREET);
        due("60 -2", x.image(3), -2);
        due("60 -2", x.image(-1), -2);
        due("61 -2", x.back(3), -2);
        due("61 -2", x.back(-1), -2);
        due("61 -6", x.back(2), -6);
        x.jump(0);
        x.row(0, 0, 1);
        due("60", x.image(2), 0);
        x.jump(0);
        x.wet(0, 1);
        x.anger(0, 1, 7);
        x.truce(0, 1, 1);
        x.stand(3, 1, 1);
        x.feed(1, 2, 3, 4, 5);
        x.row(1, 0, 1);
        due("61", x.back(2), 0);
        due("61 jumps", x.count(6), 1);
        due("61 wet", x.net(0, 2), 0);
        due("61 quarrel", x.quarrel(0, 1), 2);
        due("61 feud", x.feud(0, 1), 0);
        due("61 stands", x.man(3, 2), 0);
        due("61 stands", x.corner(1, 1, 1), NONE);
        due("61 knots", x.corner(0, 0, 0), 6);
        due("61 tape stays", x.count(8), 20);
        due("61 slots stay", x.count(9), 2);
        due("19 undo behind it", x.undo(), 0);
        due("19 knots", x.corner(0, 0, 0), 10);
        x.end(0);
        x.street();
        due("60 no street", x.image(0), 0);
        due("61 again", x.back(2), 0);
        due("61 the image is not changed", x.count(6), 1);
        due("61 lines", x.count(7), 23);
        due("61 roads", x.alarm(0, 2), 12);
        due("61 no street", x.back(0), 0);
        due("61 no street", x.undo(), -2);
        due("61 no street", x.count(3), 0);
        due("4 a fault", Due.read(x, "x"), -4);
        due("61", x.back(2), 0);
        due("5 of the latest street()", x.fault(0), 1);
    }

    // 62, 63
    private static void slots() {
        OppositeNets x = Due.told(STREET);
        due("62", x.row(0, 0, 60), 0);
        due("62 -2", x.row(0, 0, 61), -2);
        due("62 -2", x.row(4, 0, 1), -2);
        due("62 -2", x.row(-1, 0, 1), -2);
        due("62 -2", x.row(0, 4, 1), -2);
        due("62 -2", x.row(0, -1, 1), -2);
        due("62 -3", x.row(0, 0, -1), -3);
        due("62 -2 ahead", x.row(4, 0, -1), -2);
        due("62 -2 ahead", x.row(0, 4, -1), -2);
        due("62 the slot stays", x.write(0, 59, 1), 0);
        due("62 -3 leaves nothing", x.row(1, 0, -1), -3);
        due("63 -6", x.write(1, 0, 1), -6);
        due("63 -2", x.write(4, 0, 1), -2);
        due("63 -2", x.write(-1, 0, 1), -2);
        due("63 -7", x.write(0, 60, 1), -7);
        due("63 -7", x.write(0, -1, 1), -7);
        due("62 all 0 anew", x.row(0, 0, 3), 0);
        x.write(0, 1, 1);
        due("63 force 1 not held", x.seen(0), 0);
        x.write(0, 2, 257);
        due("63 cut to a byte", x.seen(0), 4);
        x.write(0, 1, 128);
        due("63 a byte below 0", x.seen(0), -2);
        x.write(0, 1, 256 + 36);
        due("63 36 is held, dry", x.seen(0), 2);
        x.row(0, 1, 3);
        x.write(0, 2, 1);
        x.write(0, 1, 65536 + 36);
        due("63 two bytes", x.seen(0), 2);
        x.row(0, 2, 3);
        x.write(0, 2, 1);
        x.write(0, 1, (1L << 40) + 36);
        due("63 four bytes", x.seen(0), 2);
        x.row(0, 3, 3);
        x.write(0, 2, 1);
        x.write(0, 1, (1L << 40) + 36);
        due("63 eight bytes", x.seen(0), 0);
        x.row(0, 3, 3);
        due("62 in place of another", x.seen(0), 0);
    }

    // 64
    private static void pastes() {
        OppositeNets x = Due.told(STREET);
        x.row(0, 1, 6);
        x.row(1, 1, 3);
        x.row(2, 2, 3);
        due("64 -2", x.paste(4, 0, 0, 0, 0), -2);
        due("64 -2", x.paste(0, 0, -1, 0, 0), -2);
        due("64 -6", x.paste(0, 0, 3, 0, 0), -6);
        due("64 -6", x.paste(3, 0, 0, 0, 0), -6);
        due("64 -6 ahead", x.paste(3, -1, 2, 0, 0), -6);
        due("64 -8", x.paste(0, 0, 2, 0, 1), -8);
        due("64 -8 ahead", x.paste(0, -1, 2, 0, 1), -8);
        due("64 -7", x.paste(0, 0, 1, 0, 4), -7);
        due("64 -7", x.paste(0, 4, 1, 0, 3), -7);
        due("64 -7", x.paste(0, -1, 1, 0, 1), -7);
        due("64 -7", x.paste(0, 0, 1, -1, 1), -7);
        due("64 -7", x.paste(0, 0, 1, 0, -1), -7);
        due("64 -7 far", x.paste(0, Integer.MAX_VALUE, 1, 0, Integer.MAX_VALUE), -7);
        due("64 -7 far", x.paste(0, 1, 1, 0, Integer.MAX_VALUE), -7);
        due("64 nothing, at the end", x.paste(0, 6, 1, 3, 0), 0);
        due("64 nothing, beyond", x.paste(0, 7, 1, 3, 0), -7);
        due("64 nothing, beyond", x.paste(0, 6, 1, 4, 0), -7);
        x.write(0, 4, 21);
        x.write(0, 5, 1);
        due("64", x.paste(0, 3, 1, 0, 3), 0);
        due("64 put there", x.seen(1), 2);
        due("64 put there", x.sure(1, 1), 1);
        due("64 its own", x.paste(0, 3, 0, 0, 3), 0);
        due("64 put there", x.seen(0), 2);
        // 0 21 1 0 21 1 from 0 to 1: 0 0 21 1 0 21, as they were
        due("64 over itself", x.paste(0, 0, 0, 1, 5), 0);
        due("64 21 is neither 0 nor 1", x.seen(0), -2);
        x.write(0, 2, 1);
        x.write(0, 3, 0);
        x.write(0, 5, 1);
        due("64 as they were", x.seen(0), 4);
    }
}
