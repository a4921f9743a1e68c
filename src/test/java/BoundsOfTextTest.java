/** Bounds of the text: Terms I with TOKENS and FAULTS, and promises 1 to 5. In a marked text ^ is the fault's place. */
public final class BoundsOfTextTest {
    private static final int NONE = OppositeNets.NONE;
    private static final String HEAD = "street houses 4 storeys 6;";
    /** Two windows, two men and a net at window 0. */
    private static final String THINGS =
            HEAD + "window 0 1;window 1 2;man 0 strength 5;man 1 strength 6;net at 0 knots 1 2 3 4 wears 0;";
    private static final int BLANKS = 0x20202020;

    public static void main(String[] args) throws ReflectiveOperationException {
        Due.all(BoundsOfTextTest.class);
    }

    private static OppositeNets fine(String text) {
        OppositeNets x = new OppositeNets();
        Due.is("street() of " + text, Due.read(x, text), text.chars().filter(b -> b == ';').count());
        Due.is("fault(0) of " + text, x.fault(0), 0);
        Due.is("fault(1) of " + text, x.fault(1), NONE);
        return x;
    }

    private static void fault(String marked, int kind) {
        int place = marked.indexOf('^');
        String text = marked.substring(0, place) + marked.substring(place + 1);
        OppositeNets x = new OppositeNets();
        Due.is("street() of " + marked, Due.read(x, text), -4);
        Due.is("fault(0) of " + marked, x.fault(0), kind);
        Due.is("fault(1) of " + marked, x.fault(1), place);
    }

    /** A number of low .. high between two texts: each bound with zeros ahead or none, and numbers beyond them. */
    private static void number(String before, int low, int high, String after) {
        String[] good = {"" + low, "" + high, "0" + low, "00000000000000000000" + high};
        String[] bad = {"" + (high + 1), "" + (high + 10), "" + (high + 256), "" + (low + 65536),
            "" + (4294967296L + low), "" + (Long.MAX_VALUE - 1), "1844674407370955161" + (6 + low),
            "9".repeat(40)};
        for (String n : good) {
            fine(before + n + after);
        }
        for (String n : bad) {
            fault(before + "^" + n + after, 2);
        }
        if (low > 0) {
            fault(before + "^" + (low - 1) + after, 2);
            fault(before + "^00" + (low - 1) + after, 2);
        }
        fault(before + "^-" + low + after, 1);
    }

    private static void none(String before, String after) {
        fault(before + "^0" + after, 2);
        fault(before + "^1" + after, 2);
    }

    // ---- I. STREET ----

    /** I: "STREET: {LINE ;}": no LINE at all, one, and as many as 1,400 bytes have. */
    static void linesFromNoneToAsManyAsTheTapeHas() {
        Due.is("no byte", new OppositeNets().street(), 0);
        fine("street houses 2 storeys 1;");
        String text = "street houses2storeys1;" + "feud0 1;".repeat(172) + "\n";
        Due.is("bytes", text.length(), 1400);
        OppositeNets x = fine(text);
        Due.is("LINES", x.count(7), 173);
        Due.is("the last one counts", x.feud(0, 1), 1);
    }

    /** I: "{LINE ;}": each LINE has its sign behind it, and no sign is without a LINE. */
    static void eachLineHasItsSign() {
        fault("street houses 2 storeys 1^", 1);
        fault("street houses 2 storeys 1 ^window 0 1;", 1);
        fault("street houses 2 storeys 1;^;", 1);
        fault("^;street houses 2 storeys 1;", 1);
        fault("street houses 2 storeys 1;feud 0 1 ^feud 1 0;", 1);
        fault("street houses 2 storeys 1;feud 0 1;^;", 1);
    }

    /** I: "street is the first LINE and no other". */
    static void streetIsTheFirstLine() {
        for (String line : new String[] {"window 0 1;", "man 0 strength 1;", "net at 0 knots 1 1 1 1 wears 0;",
            "stands 0 at 0 0;", "quarrel 0 1 1;", "feud 0 1;", "jumper weight 1 at 0;", "road 0 1 1;"}) {
            fault("^" + line, 1);
            fault("^" + line + "street houses 2 storeys 1;", 1);
        }
    }

    /** I: "street is the first LINE and no other". */
    static void noOtherLineIsStreet() {
        fault(HEAD + "^street houses 4 storeys 6;", 1);
        fault(THINGS + "^street houses 4 storeys 6;", 1);
    }

    /** I: "houses 2 .. 4". */
    static void houses() {
        number("street houses ", 2, 4, " storeys 1;");
        Due.is("houses", fine("street houses 3 storeys 1;").count(0), 3);
    }

    /** I: "storeys 1 .. 6". */
    static void storeys() {
        number("street houses 2 storeys ", 1, 6, ";");
        Due.is("storeys", fine("street houses 2 storeys 06;").count(1), 6);
    }

    /** I: "H a HOUSE 0 .. houses less 1", of a window. */
    static void houseOfAWindow() {
        for (int h = 2; h <= 4; h++) {
            number("street houses " + h + " storeys 1;window ", 0, h - 1, " 1;");
        }
    }

    /** I: "H a HOUSE 0 .. houses less 1", of a man. */
    static void houseOfAMan() {
        for (int h = 2; h <= 4; h++) {
            number("street houses " + h + " storeys 1;man ", 0, h - 1, " strength 1;");
        }
    }

    /** I: "H a HOUSE 0 .. houses less 1", of a feud, first and second. */
    static void housesOfAFeud() {
        for (int h = 3; h <= 4; h++) {
            String head = "street houses " + h + " storeys 1;feud ";
            number(head, 0, h - 1, " 1;");
            number(head + "1 ", 0, h - 1, ";");
        }
        fine("street houses 2 storeys 1;feud 0 1;feud 1 0;");
        fault("street houses 2 storeys 1;feud ^2 1;", 2);
        fault("street houses 2 storeys 1;feud 1 ^2;", 2);
    }

    /** I: "H a HOUSE 0 .. houses less 1", of a road, first and second. */
    static void housesOfARoad() {
        for (int h = 3; h <= 4; h++) {
            String head = "street houses " + h + " storeys 1;road ";
            number(head, 0, h - 1, " 1 1;");
            number(head + "1 ", 0, h - 1, " 1;");
        }
    }

    /** I: "S a storey 1 .. storeys". */
    static void storeyOfAWindow() {
        for (int s = 1; s <= 6; s++) {
            number("street houses 2 storeys " + s + ";window 0 ", 1, s, ";");
        }
    }

    /** I: "W a WINDOW" of a net: none, one told behind, the last of nine. */
    static void windowOfANet() {
        String behind = " knots 1 1 1 1 wears 0;";
        none(HEAD + "net at ", behind);
        fault(HEAD + "window 0 1;net at ^1" + behind + "window 0 1;", 2);
        number(HEAD + "window 0 1;", "net at ", behind);
        number(HEAD + "window 0 1;".repeat(9) + "net at ", 0, 8, behind);
    }

    /** The one number that fits is 0. */
    private static void number(String before, String line, String after) {
        number(before + line, 0, 0, after);
    }

    /** I: "W a WINDOW" of a jumper: none, one told behind, the last of nine. */
    static void windowOfAJumper() {
        none(HEAD + "jumper weight 1 at ", ";");
        fault(HEAD + "window 0 1;jumper weight 1 at ^1;window 0 1;", 2);
        number(HEAD + "window 0 1;", "jumper weight 1 at ", ";");
        number(HEAD + "window 0 1;".repeat(9) + "jumper weight 1 at ", 0, 8, ";");
    }

    /** I: "M a MAN" of stands: none, one told behind, the last of nine. */
    static void manOfStands() {
        String net = "window 0 1;net at 0 knots 1 1 1 1 wears 0;";
        none(HEAD + net + "stands ", " at 0 0;");
        fault(HEAD + net + "man 0 strength 1;stands ^1 at 0 0;man 0 strength 1;", 2);
        number(HEAD + net + "man 0 strength 1;", "stands ", " at 0 0;");
        number(HEAD + net + "man 0 strength 1;".repeat(9) + "stands ", 0, 8, " at 0 0;");
    }

    /** I: "M a MAN" of a quarrel, first and second: none, one told behind, the last of nine. */
    static void menOfAQuarrel() {
        none(HEAD + "quarrel ", " 1 1;");
        fault(HEAD + "man 0 strength 1;quarrel 0 ^1 1;man 0 strength 1;", 2);
        fault(HEAD + "man 0 strength 1;quarrel ^1 0 1;man 0 strength 1;", 2);
        number(HEAD + "man 0 strength 1;".repeat(9) + "quarrel ", 0, 8, " 4 1;");
        number(HEAD + "man 0 strength 1;".repeat(9) + "quarrel 4 ", 0, 8, " 1;");
    }

    /** I: "N (of stands) a NET told ahead": none, one told behind, the second of two. */
    static void netOfStands() {
        String men = HEAD + "window 0 1;window 0 1;man 0 strength 1;";
        String first = "net at 0 knots 1 1 1 1 wears 0;";
        String second = "net at 1 knots 1 1 1 1 wears 0;";
        none(men + "stands 0 at ", " 0;");
        fault(men + "stands 0 at ^0 0;" + first, 2);
        fault(men + first + "stands 0 at ^1 0;" + second, 2);
        number(men + first, "stands 0 at ", " 0;");
        number(men + first + second + "stands 0 at ", 0, 1, " 0;");
    }

    /** I: "C a CORNER 0 .. 3". */
    static void cornerOfStands() {
        number(THINGS + "stands 0 at 0 ", 0, 3, ";");
    }

    /** I: "strength 1 .. 60". */
    static void strength() {
        number(HEAD + "man 0 strength ", 1, 60, ";");
    }

    /** I: "knots 1 .. 99", each of the four. */
    static void knots() {
        String before = HEAD + "window 0 1;net at 0 knots ";
        number(before, 1, 99, " 5 5 5 wears 0;");
        number(before + "5 ", 1, 99, " 5 5 wears 0;");
        number(before + "5 5 ", 1, 99, " 5 wears 0;");
        number(before + "5 5 5 ", 1, 99, " wears 0;");
    }

    /** I: "wears 0 .. 9", with and without "[wet]". */
    static void wears() {
        number(HEAD + "window 0 1;net at 0 knots 5 5 5 5 wears ", 0, 9, ";");
        number(HEAD + "window 0 1;net at 0 knots 5 5 5 5 wears ", 0, 9, " wet;");
    }

    /** I: "[wet]": not at all, or once. */
    static void wetOnceAtMost() {
        String net = HEAD + "window 0 1;net at 0 knots 5 5 5 5 wears 0";
        Due.is("dry", fine(net + ";").net(0, 2), 0);
        Due.is("wet", fine(net + " wet;").net(0, 2), 1);
        Due.is("without a blank", fine(net + "wet;").net(0, 2), 1);
        fault(net + " wet ^wet;", 1);
        fault(net + " ^dry;", 1);
        fault(net + " wet ^0;", 1);
        fault(net + " ^0;", 1);
    }

    /** I: "a NET at a WINDOW that has none". */
    static void netAtAWindowThatHasOne() {
        fault(THINGS + "net at ^0 knots 1 1 1 1 wears 0;", 2);
        fault(THINGS + "net at ^0 ;", 2);
        fine(THINGS + "net at 1 knots 1 1 1 1 wears 0;");
    }

    /** I: "stands: a MAN who stands nowhere yet". */
    static void manWhoStandsAlready() {
        fault(THINGS + "stands 0 at 0 0;stands ^0 at 0 1;", 2);
        fault(THINGS + "stands 0 at 0 0;stands 1 at 0 1;stands ^0 at 0 2;", 2);
        fine(THINGS + "stands 0 at 0 0;stands 1 at 0 1;");
    }

    /** I: "at a CORNER where nobody does". */
    static void cornerThatIsTaken() {
        fault(THINGS + "stands 0 at 0 3;stands 1 at 0 ^3;", 2);
        fine(THINGS + "stands 0 at 0 3;stands 1 at 0 2;");
        fine(THINGS + "net at 1 knots 1 1 1 1 wears 0;stands 0 at 0 3;stands 1 at 1 3;");
    }

    /** FAULTS: "not as said (of stands at M, at C)": M where both are not so, the first by its place. */
    static void manAheadOfCorner() {
        fault(THINGS + "stands 0 at 0 3;stands ^0 at 0 3;", 2);
        fault(THINGS + "stands 0 at 0 3;stands ^0 zz;", 2);
        fault(THINGS + "stands 0 at 0 3;stands ^0", 2);
        fault(THINGS + "stands 0 at 0 3;stands 1 at 0 ^3", 2);
    }

    /** I: "quarrel: unlike MEN". */
    static void quarrelOfUnlikeMen() {
        fault(THINGS + "quarrel 0 ^0 1;", 2);
        fault(THINGS + "quarrel 1 ^1 1;", 2);
        fault(THINGS + "quarrel 1 ^01 0;", 2);
        fine(THINGS + "quarrel 0 1 1;quarrel 1 0 1;");
    }

    /** I: "quarrel: .. 1 .. 9". */
    static void quarrelFromOneToNine() {
        number(THINGS + "quarrel 0 1 ", 1, 9, ";");
    }

    /** I: "(a later one strikes)" of a quarrel, whoever is named first. */
    static void laterQuarrelStrikes() {
        Due.is("less", fine(THINGS + "quarrel 0 1 9;quarrel 0 1 1;").quarrel(0, 1), 1);
        OppositeNets x = fine(THINGS + "quarrel 0 1 2;quarrel 1 0 7;");
        Due.is("from the one", x.quarrel(0, 1), 7);
        Due.is("from the other", x.quarrel(1, 0), 7);
    }

    /** I: "feud, road: unlike HOUSES". */
    static void feudOfUnlikeHouses() {
        for (int h = 0; h < 4; h++) {
            fault(HEAD + "feud " + h + " ^" + h + ";", 2);
        }
        OppositeNets x = fine(HEAD + "feud 0 1;feud 1 0;feud 0 1;");
        Due.is("told twice", x.feud(1, 0), 1);
    }

    /** I: "feud, road: unlike HOUSES". */
    static void roadOfUnlikeHouses() {
        for (int h = 0; h < 4; h++) {
            fault(HEAD + "road " + h + " ^" + h + " 1;", 2);
        }
    }

    /** I: "road 1 .. 99 minutes". */
    static void minutesOfARoad() {
        number(HEAD + "road 0 1 ", 1, 99, ";");
        Due.is("99 minutes", fine(HEAD + "road 0 3 99;").alarm(0, 3), 99);
    }

    /** I: "(either way; a later one strikes)" of a road. */
    static void laterRoadStrikes() {
        OppositeNets x = fine(HEAD + "road 0 1 5;road 1 0 90;");
        Due.is("more", x.alarm(0, 1), 90);
        Due.is("either way", x.alarm(1, 0), 90);
        Due.is("less", fine(HEAD + "road 1 0 90;road 1 0 5;").alarm(0, 1), 5);
    }

    /** I: "jumper: weight 1 .. 99". */
    static void weight() {
        number(THINGS + "jumper weight ", 1, 99, " at 0;");
    }

    // ---- how many, and their numbers ----

    /** I: "WINDOWS .. 0 .. 8", "numbered as they stand"; FAULTS: "3 a 10th window". */
    static void nineWindows() {
        StringBuilder b = new StringBuilder(HEAD);
        for (int w = 0; w < 9; w++) {
            b.append("window ").append(w % 4).append(' ').append(1 + w % 6).append(';');
        }
        OppositeNets x = fine(b.toString());
        Due.is("nine", x.count(2), 9);
        for (int w = 0; w < 9; w++) {
            Due.is("HOUSE of " + w, x.window(w, 0), w % 4);
            Due.is("storey of " + w, x.window(w, 1), 1 + w % 6);
        }
        Due.is("no 10th", x.window(9, 0), -2);
        fault(b + "^window 0 1;", 3);
    }

    /** I: "MEN .. 0 .. 8", "numbered as they stand"; FAULTS: "3 a 10th .. man". */
    static void nineMen() {
        StringBuilder b = new StringBuilder(HEAD);
        for (int m = 0; m < 9; m++) {
            b.append("man ").append(m % 4).append(" strength ").append(60 - m).append(';');
        }
        OppositeNets x = fine(b.toString());
        Due.is("nine", x.count(3), 9);
        for (int m = 0; m < 9; m++) {
            Due.is("HOUSE of " + m, x.man(m, 0), m % 4);
            Due.is("strength of " + m, x.man(m, 1), 60 - m);
        }
        Due.is("no 10th", x.man(9, 0), -2);
        fault(b + "^man 0 strength 1;", 3);
    }

    /** I: "JUMPERS 0 .. 8", "numbered as they stand"; FAULTS: "3 a 10th .. jumper". */
    static void nineJumpers() {
        StringBuilder b = new StringBuilder(THINGS);
        for (int j = 0; j < 9; j++) {
            b.append("jumper weight ").append(99 - j).append(" at ").append(j % 2).append(';');
        }
        OppositeNets x = fine(b.toString());
        Due.is("nine", x.count(5), 9);
        for (int j = 0; j < 9; j++) {
            Due.is("weight of " + j, x.jumper(j, 0), 99 - j);
            Due.is("WINDOW of " + j, x.jumper(j, 1), j % 2);
        }
        Due.is("no 10th", x.jumper(9, 0), -2);
        fault(b + "^jumper weight 1 at 0;", 3);
    }

    /** I: "NETS 0 .. 1 are numbered as they stand"; FAULTS: "3 .. 3rd net". */
    static void twoNets() {
        String two = HEAD + "window 0 1;window 0 2;window 0 3;net at 2 knots 1 2 3 4 wears 5;net at 0 knots 6 7 8 9 wears 0;";
        OppositeNets x = fine(two);
        Due.is("two", x.count(4), 2);
        Due.is("WINDOW of the first", x.net(0, 0), 2);
        Due.is("WINDOW of the second", x.net(1, 0), 0);
        Due.is("a knot of the second", x.corner(1, 3, 0), 9);
        Due.is("no 3rd", x.net(2, 0), -2);
        fault(two + "^net at 1 knots 1 2 3 4 wears 5;", 3);
    }

    /** I: "{LINE ;}": nothing bounds how many stands, quarrel, feud and road LINES there are but the TAPE. */
    static void linesThatAreNotNumbered() {
        fine(THINGS + "quarrel 0 1 1;".repeat(12));
        fine(THINGS + "feud 0 1;".repeat(12));
        fine(THINGS + "road 0 1 1;".repeat(12));
        fine(HEAD + "window 0 1;window 0 1;" + "man 1 strength 1;".repeat(9)
                + "net at 0 knots 1 1 1 1 wears 0;net at 1 knots 1 1 1 1 wears 0;"
                + "stands 8 at 1 3;stands 7 at 1 2;stands 6 at 1 1;stands 5 at 1 0;"
                + "stands 4 at 0 3;stands 3 at 0 2;stands 2 at 0 1;stands 1 at 0 0;");
    }

    /** FAULTS: "3 .. at its word", whatever is told behind it. */
    static void tooManyAtItsWord() {
        String nine = "window 0 1;".repeat(9) + "man 0 strength 1;".repeat(9) + "jumper weight 1 at 0;".repeat(9);
        String nets = "net at 0 knots 1 1 1 1 wears 0;net at 1 knots 1 1 1 1 wears 0;";
        for (String word : new String[] {"window", "man", "jumper", "net"}) {
            for (String behind : new String[] {"", " ", ";", " 99 99;", " zz", "?"}) {
                fault(HEAD + nine + nets + "^" + word + behind, 3);
            }
        }
    }

    // ---- TOKENS ----

    /** TOKENS: "blanks (32, 10) aside": of all 256 bytes these two alone. */
    static void blanksAreTwoBytes() {
        for (int b = 0; b < 256; b++) {
            String text = "street houses 2" + (char) b + "storeys 1;";
            if (b == 32 || b == 10) {
                fine(text);
            } else if (b >= '0' && b <= '9') {
                fault("street houses ^2" + (char) b + "storeys 1;", 2);
            } else {
                fault("street houses 2^" + (char) b + "storeys 1;", 1);
            }
        }
    }

    /** TOKENS: "words (a .. z)": a, z, and the bytes beside them. */
    static void wordsFromAToZ() {
        for (char c : new char[] {'`', 'a', 'z', '{', 'A', 'Z', 225}) {
            boolean longer = c == 'a' || c == 'z';
            fault(longer ? "^street" + c + " houses 2 storeys 1;" : "street^" + c + " houses 2 storeys 1;", 1);
            fault("^" + c + "street houses 2 storeys 1;", 1);
        }
        fault("^Street houses 2 storeys 1;", 1);
        fault("^stree houses 2 storeys 1;", 1);
        fault("^streeT houses 2 storeys 1;", 1);
    }

    /** TOKENS: "numbers (digits)": 0, 9, and the bytes beside them. */
    static void numbersOfDigits() {
        fine(HEAD + "man 0 strength 09;");
        fault(HEAD + "man 0 strength ^/9;", 1);
        fault(HEAD + "man 0 strength ^:9;", 1);
        fault(HEAD + "man 0 strength 9^/;", 1);
        fault(HEAD + "man 0 strength 9^:;", 1);
        fault(HEAD + "man 0 strength ^+9;", 1);
    }

    /** TOKENS: "the longest". */
    static void tokensAreTheLongest() {
        fine("street houses2storeys1;window0 1;window 0 1 ;");
        fault("^streethouses 2 storeys 1;", 1);
        fault("street houses 2 storeys 1;window ^00002 1;", 2);
        fault("street houses 2 storeys 1;window 01^;", 1);
        fault("street houses ^22 storeys 1;", 2);
        fault("^str eet houses 2 storeys 1;", 1);
        fault("street houses 2 storeys 1;^windowwindow 0 1;", 1);
    }

    /** TOKENS: "blanks (32, 10) aside": none, one or many, ahead, between and behind. */
    static void blanksAreNoTokens() {
        fine("street houses2storeys1;window0 1;");
        fine("\n \nstreet\n\nhouses\n2\nstoreys\n1\n;\n\n   ");
        fine(" ".repeat(1374) + "street houses 2 storeys 1;");
        fault(" \n ^window 0 1;", 1);
    }

    /** TOKENS: "the longest": a word, a number as long as the TAPE, and a number whose zeros fill it. */
    static void tokensAsLongAsTheTape() {
        fault("^" + "a".repeat(1400), 1);
        fault("^" + "1".repeat(1400), 1);
        fault("street houses ^" + "2".repeat(1386), 2);
        fault("street houses ^" + "0".repeat(1386), 2);
        fine("street houses " + "0".repeat(1374) + "2 storeys 1;".replace(" ", ""));
    }

    // ---- FAULTS ----

    /** FAULTS: "the first by its place": what comes behind it is not looked at. */
    static void theFirstFaultIsTold() {
        fault("street houses ^9 storeys 9;", 2);
        fault("street houses ^9 storeys zz", 2);
        fault("street houses 2 storeys 1;window ^2 9;window 0 1;?", 2);
        fault("street houses 2 storeys 1;window 0 ^zz;street", 1);
        fault(HEAD + "window 0 1;".repeat(9) + "^window 9 9;man 9 strength 0;", 3);
        fault(HEAD + "window 0 1;".repeat(8) + "window ^9 1;window 0 1;window 0 1;", 2);
    }

    /** FAULTS: "(a TOKEN's first byte ..)": of a long word, a long number, a sign, another byte. */
    static void placeIsTheTokensFirstByte() {
        fault("street houses 2 storeys 1;  ^windowpane 0 1;", 1);
        fault("street houses 2 storeys   ^0000000000000000007;", 2);
        fault("street houses 2 storeys  ^;", 1);
        fault("street houses 2 storeys \n^" + (char) 0, 1);
        fault("^?", 1);
    }

    /** FAULTS: "the first by its place": the last one of 1,400 bytes, and the end behind it. */
    static void placeIsTheLastByte() {
        String blanks = " ".repeat(1400 - HEAD.length() - 1);
        fault(HEAD + blanks + "^?", 1);
        fault(HEAD + blanks + "^;", 1);
        fault(HEAD + blanks.substring(5) + "feud ^4", 2);
        fault(HEAD + blanks.substring(3) + "feud^", 1);
        fine(HEAD + blanks.substring(7) + "feud0 1;");
    }

    /** FAULTS: "(..; the end's)": a LINE that the end cuts has its fault there, behind the last blank. */
    static void placeIsTheEnds() {
        fault("street^", 1);
        fault("street  \n^", 1);
        fault(HEAD + "window 0 1;net at 0 knots 1 1 1 1 wears 0^", 1);
        fault(HEAD + "window 0 1;net at 0 knots 1 1 1 1 wears 0 wet^", 1);
        fault("street houses 2 storeys 1" + " ".repeat(1375) + "^", 1);
        OppositeNets x = new OppositeNets();
        Due.feed(x, "street houses 2 storeys 1;");
        Due.is("end(24)", x.end(24), 24);
        Due.is("cut", x.street(), -4);
        Due.is("its FAULT", x.fault(0), 1);
        Due.is("its place", x.fault(1), 24);
    }

    /** FAULTS: "of one place the least": what can't stand there is 1, though it were 2 or 3 as well. */
    static void ofOnePlaceTheLeast() {
        fault("street houses 2 storeys 1 ^9;", 1);
        fault("street ^9 houses 2 storeys 1;", 1);
        fault("^9", 1);
        fault(HEAD + "window 0 1;".repeat(8) + "window 0 1 ^window 0 1;", 1);
        fault(HEAD + "man 0 strength 1;".repeat(9) + "feud 0 1 ^man 0 strength 1;", 1);
    }

    /** FAULTS: "1 a TOKEN that is none": one such byte at each place of each LINE. */
    static void bytesThatAreNoToken() {
        for (String line : LINES_OF_ALL_KINDS) {
            String[] tokens = line.split(" ");
            for (int i = 0; i < tokens.length; i++) {
                fault(before(line, i) + "^,", 1);
                fault(before(line, i) + "^" + (char) 128, 1);
                fault(before(line, i) + "^" + (char) 0, 1);
            }
        }
    }

    /** FAULTS: "1 a TOKEN that .. can't stand there": another kind, or another word, at each place of each LINE. */
    static void tokensThatCantStandThere() {
        for (String line : LINES_OF_ALL_KINDS) {
            String[] tokens = line.split(" ");
            for (int i = 0; i < tokens.length; i++) {
                boolean number = Character.isDigit(tokens[i].charAt(0));
                fault(before(line, i) + "^zz " + tokens[i], 1);
                fault(before(line, i) + (number ? "^;" : "^1"), 1);
                fault(before(line, i) + (tokens[i].equals(";") || tokens[i].equals("wet") ? "^window" : "^;"), 1);
            }
        }
    }

    /** FAULTS: "1 a TOKEN that .. can't stand there": each word with one letter less, more, another first or last one. */
    static void wordsThatAreAlmostRight() {
        for (String line : LINES_OF_ALL_KINDS) {
            String[] tokens = line.split(" ");
            for (int i = 0; i < tokens.length; i++) {
                if (Character.isLetter(tokens[i].charAt(0))) {
                    int last = tokens[i].length() - 1;
                    fault(before(line, i) + "^z" + tokens[i].substring(1), 1);
                    fault(before(line, i) + "^" + tokens[i].substring(0, last) + "q", 1);
                    fault(before(line, i) + "^" + tokens[i].substring(0, last), 1);
                    fault(before(line, i) + "^" + tokens[i] + "q", 1);
                    fault(before(line, i) + "^q" + tokens[i], 1);
                }
            }
        }
    }

    /** FAULTS: "(..; the end's)": the end ahead of each TOKEN of each LINE. */
    static void endAheadOfEachToken() {
        for (String line : LINES_OF_ALL_KINDS) {
            int tokens = line.split(" ").length;
            for (int i = 1; i < tokens; i++) {
                fault(before(line, i) + "^", 1);
                fault(before(line, i).stripTrailing() + "^", 1);
            }
            fine(before(line, 0) + (line.startsWith("street") ? "" : line));
        }
    }

    private static final String[] LINES_OF_ALL_KINDS = {"street houses 2 storeys 1 ;", "window 0 1 ;",
        "man 0 strength 1 ;", "net at 1 knots 1 1 1 1 wears 0 ;", "net at 1 knots 1 1 1 1 wears 0 wet ;",
        "stands 0 at 0 0 ;", "quarrel 0 1 1 ;", "feud 0 1 ;", "jumper weight 1 at 0 ;", "road 0 1 1 ;"};

    /** The text up to token i of a line, with all ahead that the line needs. */
    private static String before(String line, int i) {
        StringBuilder b = new StringBuilder(line.startsWith("street") ? "" : THINGS);
        String[] tokens = line.split(" ");
        for (int k = 0; k < i; k++) {
            b.append(tokens[k]).append(' ');
        }
        return b.toString();
    }

    // ---- Promise 1: A new object ----

    /** 1: "No STREET": nothing is there, and -2 is told where a STREET is asked for. */
    static void newObjectHasNoStreet() {
        OppositeNets x = new OppositeNets();
        for (int what = 0; what < 10; what++) {
            Due.is("count(" + what + ")", x.count(what), 0);
        }
        for (int what = 0; what < 3; what++) {
            Due.is("window", x.window(0, what), -2);
            Due.is("man", x.man(0, what), -2);
            Due.is("net", x.net(0, what), -2);
            Due.is("corner", x.corner(0, 0, what), -2);
            Due.is("jumper", x.jumper(0, what), -2);
            Due.is("led", x.led(0, what), -2);
        }
        Due.is("undo", x.undo(), -2);
        Due.is("safe", x.safe(), -2);
        Due.is("ways", x.ways(), -2);
        Due.is("quarrels", x.quarrels(), -2);
        Due.is("key", x.key(), -2);
        Due.is("helps", x.helps(), -2);
        Due.is("middle", x.middle(), -2);
        Due.is("seen", x.seen(0), -2);
    }

    /** 1: "No STREET": no TAPE, no FAULT, no IMAGE and no row either. */
    static void newObjectHasNothingElse() {
        OppositeNets x = new OppositeNets();
        Due.is("end(0)", x.end(0), 0);
        Due.is("end(1)", x.end(1), NONE);
        Due.is("fault(0)", x.fault(0), 0);
        Due.is("fault(1)", x.fault(1), NONE);
        for (int k = 0; k < 3; k++) {
            Due.is("back(" + k + ")", x.back(k), -6);
        }
        for (int slot = 0; slot < 4; slot++) {
            Due.is("write(" + slot + ", 0, 0)", x.write(slot, 0, 0), -6);
            Due.is("paste(" + slot + ", 0, " + slot + ", 0, 0)", x.paste(slot, 0, slot, 0, 0), -6);
        }
    }

    /** 1: "No STREET": nor any row or IMAGE, where another object has them. */
    static void objectsAreApart() {
        OppositeNets x = Due.told(Due.STREET);
        x.row(0, 0, 1);
        x.image(0);
        OppositeNets y = new OppositeNets();
        Due.is("no STREET", y.count(7), 0);
        Due.is("no row", y.count(9), 0);
        Due.is("no IMAGE", y.back(0), -6);
    }

    // ---- Promise 2: feed ----

    /** 2: "four of each number, the highest first": each of the twenty places, by a byte that is no TOKEN. */
    static void eachOfTwentyBytesInItsPlace() {
        for (int place = 0; place < 20; place++) {
            int[] n = {BLANKS, BLANKS, BLANKS, BLANKS, BLANKS};
            n[place / 4] |= 0xff << (24 - 8 * (place % 4));
            OppositeNets x = new OppositeNets();
            Due.is("feed", x.feed(n[0], n[1], n[2], n[3], n[4]), 20);
            Due.is("a byte at " + place, x.street(), -4);
            Due.is("its FAULT", x.fault(0), 1);
            Due.is("its place", x.fault(1), place);
        }
    }

    /** 2: "Twenty bytes come behind the TAPE": also behind one that was cut, at a place that is no twentieth. */
    static void bytesComeBehindTheTape() {
        OppositeNets x = new OppositeNets();
        for (int cut = 0; cut <= 20; cut++) {
            x.feed(BLANKS, BLANKS, BLANKS, BLANKS, BLANKS);
            x.end(cut);
            Due.is("behind " + cut, x.feed(-1, -1, -1, -1, -1), cut + 20);
            x.street();
            Due.is("first of them", x.fault(1), cut);
        }
    }

    /** 2: "how many it has": 20 to 1,400; "NONE, and none come, if it would have more than 1,400". */
    static void feedTillTheTapeIsFull() {
        OppositeNets x = new OppositeNets();
        for (int n = 1; n <= 70; n++) {
            Due.is("feed " + n, x.feed(BLANKS, BLANKS, BLANKS, BLANKS, BLANKS), 20 * n);
        }
        Due.is("the 71st", x.feed(-1, -1, -1, -1, -1), NONE);
        Due.is("none come", x.count(8), 1400);
        Due.is("the 72nd", x.feed(0, 0, 0, 0, 0), NONE);
        Due.is("none of the bytes are there", x.street(), 0);
        Due.is("no FAULT", x.fault(0), 0);
        Due.is("empty again", x.feed(0, 0, 0, 0, 0), 20);
    }

    /** 2: "if it would have more than 1,400": behind 1,380 they come, behind 1,381 .. 1,400 none. */
    static void feedBesideTheBound() {
        for (int had : new int[] {1379, 1380, 1381, 1382, 1399, 1400}) {
            OppositeNets x = new OppositeNets();
            Due.feed(x, " ".repeat(had));
            Due.is("had", x.count(8), had);
            Due.is("feed behind " + had, x.feed(-1, -1, -1, -1, -1), had > 1380 ? NONE : had + 20);
            Due.is("bytes behind " + had, x.count(8), had > 1380 ? had : had + 20);
            Due.is("street of " + had, x.street(), had > 1380 ? 0 : -4);
            Due.is("place of " + had, x.fault(1), had > 1380 ? NONE : had);
        }
    }

    /** 2: "NONE, and none come": all else is as it was too. */
    static void refusedFeedLeavesAll() {
        OppositeNets x = Edge.busy();
        for (int n = 0; n < 70; n++) {
            x.feed(BLANKS, BLANKS, BLANKS, BLANKS, BLANKS);
        }
        Edge.stays("feed when full", x, () -> Due.is("feed", x.feed(1, 2, 3, 4, 5), NONE));
    }

    // ---- Promise 3: end ----

    /** 3: "The TAPE has its first n bytes alone: n": all, one fewer, none. */
    static void endWithinTheTape() {
        OppositeNets x = new OppositeNets();
        Due.feed(x, "street houses 2 storeys 1;?");
        Due.is("all", x.end(27), 27);
        Due.is("all stay", x.count(8), 27);
        Due.is("one fewer", x.end(26), 26);
        Due.is("one fewer is there", x.count(8), 26);
        Due.is("the first ones", x.street(), 1);
        Due.is("empty: none", x.end(0), 0);
        x.feed(-1, -1, -1, -1, -1);
        Due.is("none", x.end(0), 0);
        Due.is("none is there", x.count(8), 0);
        Due.is("none is read", x.street(), 0);
    }

    /** 3: "NONE, and nothing happens, if it has not so many". */
    static void endBeyondTheTape() {
        OppositeNets empty = new OppositeNets();
        for (int n : Edge.outside(0, 0)) {
            Due.is("empty: end(" + n + ")", empty.end(n), NONE);
        }
        OppositeNets x = new OppositeNets();
        Due.feed(x, "street houses 2 storeys 1;");
        Due.is("end(27)", x.end(27), NONE);
        Due.is("the greatest", x.end(Integer.MAX_VALUE), NONE);
        Due.is("cut and asked for again", x.end(25) + 10 * x.end(26), 25 - 10);
        Due.is("nothing happened", x.count(8), 25);
        OppositeNets full = new OppositeNets();
        Due.feed(full, " ".repeat(1400));
        Due.is("end(1401)", full.end(1401), NONE);
        Due.is("end(1400)", full.end(1400), 1400);
    }

    /** 3: "NONE, and nothing happens, if .. n is below 0". */
    static void endBelowZero() {
        OppositeNets x = new OppositeNets();
        Due.feed(x, "street houses 2 storeys 1;");
        Due.is("end(-1)", x.end(-1), NONE);
        Due.is("the least", x.end(Integer.MIN_VALUE), NONE);
        Due.is("nothing happened", x.count(8), 26);
        Due.is("all is read", x.street(), 1);
    }

    /** 3: "nothing happens": all is as it was. */
    static void refusedEndLeavesAll() {
        OppositeNets x = Edge.busy();
        Due.feed(x, "street houses 2");
        Edge.stays("end out of bounds", x, () -> Edge.refused("end(?)", 0, 15, x::end, NONE));
    }

    // ---- Promise 4: street ----

    /** 4: "The TAPE (empty then)": without a FAULT and with one. */
    static void tapeIsEmptyBehindStreet() {
        OppositeNets x = new OppositeNets();
        Due.is("read", Due.read(x, "street houses 2 storeys 1;"), 1);
        Due.is("empty", x.count(8), 0);
        Due.is("not so", Due.read(x, "zz"), -4);
        Due.is("(the TAPE is empty, ..)", x.count(8), 0);
        Due.is("and is none then", x.street(), 0);
    }

    /** 4: "how many LINES (0: there is none then)": no byte, blanks alone. */
    static void noLinesAreNoStreet() {
        for (String text : new String[] {"", " ", "\n", " \n".repeat(700)}) {
            OppositeNets x = Edge.busy();
            Due.is("street() of blanks", Due.read(x, text), 0);
            Due.is("no FAULT", x.fault(0), 0);
            for (int what = 0; what < 9; what++) {
                Due.is("count(" + what + ")", x.count(what), 0);
            }
            Due.is("no STREET", x.safe(), -2);
            Due.is("no HOUSE", x.corners(0), -2);
            Due.is("no WINDOW", x.window(0, 0), -2);
            Due.is("the SLOT's row stays", x.count(9), 1);
        }
    }

    /** 4: "(in place of another)": nothing of the other one is there. */
    static void streetInPlaceOfAnother() {
        OppositeNets x = Edge.busy();
        Due.is("another", Due.read(x, "street houses 3 storeys 1;window 1 1;man 1 strength 9;man 2 strength 9;"
                + "net at 0 knots 1 2 3 4 wears 0;jumper weight 9 at 0;"), 6);
        int[] due = {3, 1, 1, 2, 1, 1, 0, 6, 0, 1};
        for (int what = 0; what < 10; what++) {
            Due.is("count(" + what + ")", x.count(what), due[what]);
        }
        Due.is("no QUARREL", x.quarrel(0, 1), 0);
        Due.is("no feud", x.feud(1, 2), 0);
        Due.is("no road", x.alarm(0, 1), NONE);
        Due.is("stands nowhere", x.man(0, 2), NONE);
        Due.is("nobody stands", x.corner(0, 0, 1), NONE);
        Due.is("no NET of then", x.net(1, 0), -2);
    }

    /** 4: "no JUMPS": though the same text is told again. */
    static void streetHasNoJumps() {
        OppositeNets x = Edge.busy();
        Due.is("JUMPS ahead", x.count(6), 1);
        Due.is("again", Due.read(x, Due.STREET), 23);
        Due.is("JUMPS behind", x.count(6), 0);
        Due.is("undo", x.undo(), -5);
        Due.is("led", x.led(0, 0), NONE);
        Due.is("the knot is as told", x.corner(0, 0, 0), 10);
    }

    /** 4: "-4: a FAULT (the TAPE is empty, all else stays)": for each of the three, late and early. */
    static void refusedStreetLeavesAll() {
        String[] texts = {"?", "street houses 2 storeys 1; window 2 1;", "street houses 2 storeys 1",
            HEAD + "man 0 strength 1; ".repeat(10), THINGS + "feud 0 1; quarrel 0 1 9; road 0 1 1; jumper weight 1 at 9;"};
        for (String text : texts) {
            OppositeNets x = Edge.busy();
            x.street();
            Due.read(x, Due.STREET);
            x.jump(0);
            java.util.Map<String, Integer> before = Edge.whole(x);
            Due.is("a FAULT", Due.read(x, text), -4);
            java.util.Map<String, Integer> after = Edge.whole(x);
            for (String call : before.keySet()) {
                if (!call.startsWith("fault")) {
                    Due.is(call + " behind a FAULT", after.get(call), before.get(call));
                }
            }
        }
    }

    /** 4: "all else stays": no STREET stays none, and IMAGES stay. */
    static void refusedStreetWhereThereIsNone() {
        OppositeNets x = new OppositeNets();
        Due.is("a FAULT", Due.read(x, "street houses 4 storeys 6;zz"), -4);
        Due.is("no HOUSES", x.count(0), 0);
        Due.is("no STREET", x.ways(), -2);
        Due.read(x, Due.STREET);
        x.image(2);
        Due.is("a FAULT", Due.read(x, HEAD + "zz"), -4);
        Due.is("back", x.back(2), 0);
        Due.is("as it was kept", x.count(7), 23);
    }

    // ---- Promise 5: fault ----

    /** 5: "0 without", "(NONE without)": ahead of any, without a FAULT, of no LINES. */
    static void faultWithoutAny() {
        OppositeNets x = new OppositeNets();
        Due.is("ahead of any, what 0", x.fault(0), 0);
        Due.is("NONE .. ahead of any (what 1)", x.fault(1), NONE);
        x.street();
        Due.is("no LINES, what 0", x.fault(0), 0);
        Due.is("no LINES, what 1", x.fault(1), NONE);
        Due.read(x, Due.STREET);
        Due.is("a STREET, what 0", x.fault(0), 0);
        Due.is("a STREET, what 1", x.fault(1), NONE);
    }

    /** 5: "Of the latest street()": a FAULT is told till the next street(), not till a byte comes or is cut. */
    static void faultOfTheLatest() {
        OppositeNets x = new OppositeNets();
        Due.read(x, "street houses 2 storeys 9;");
        x.feed(0, 0, 0, 0, 0);
        x.end(0);
        Due.is("its FAULT", x.fault(0), 2);
        Due.is("its place", x.fault(1), 24);
        Due.read(x, "zz");
        Due.is("the next one's FAULT", x.fault(0), 1);
        Due.is("the next one's place", x.fault(1), 0);
        Due.read(x, "street houses 2 storeys 1;");
        Due.is("none any more", x.fault(0), 0);
        Due.is("no place any more", x.fault(1), NONE);
    }

    /** 5: "NONE for another what": below 0, above 1; ahead of any, with a FAULT and without. */
    static void faultOfAnotherWhat() {
        OppositeNets x = new OppositeNets();
        Edge.refused("ahead of any: fault(?)", 0, 1, x::fault, NONE);
        Due.read(x, "zz");
        Edge.refused("a FAULT: fault(?)", 0, 1, x::fault, NONE);
        Due.read(x, Due.STREET);
        Edge.refused("no FAULT: fault(?)", 0, 1, x::fault, NONE);
    }
}
