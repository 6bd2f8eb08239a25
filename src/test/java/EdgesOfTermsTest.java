import java.util.ArrayDeque;

/** The edges that the document's Terms name, sentence by sentence: each one has a test of its own. */
public final class EdgesOfTermsTest {
    private static final int UNKNOWN = -1, BAD = -2, LATE = -3, FULL = -4, NONE = -9;
    private static final String DIGITS = "0123456789", FROM_ONE = "123456789";
    private static final String SIX_HOUSES = "H01H01H01H01H01H01";
    private static final String TEN_STREAMS = "S011S021S031S041S051S101S121S131S141S151";
    private static final String SIX_PIECES = "P0110P0110P0110P0110P0110P0110";

    private static String sentence = "";

    public static void main(String[] args) {
        theTown();
        theText();
        theParts();
        floods();
        doors();
        springsAndActs();
        plans();
        marksAndSlots();
        Check.end();
    }

    /** What the document says, word by word; it stands ahead of each answer that is not as due. */
    private static void says(String words) {
        sentence = words;
    }

    private static void due(String call, long got, long want) {
        Check.due("\"" + sentence + "\": " + call, got, want);
    }

    private static void fault(String text, int want) {
        due("fault() of " + text, Told.text(text).fault(), want);
    }

    /** Every byte behind a text: those that are told can go on (or end it), each other one is the FAULT. */
    private static void onlyThese(String ahead, String signs, boolean isEnd) {
        for (int sign = 0; sign < 256; sign++) {
            int whole = isEnd ? NONE : ahead.length() + 1;
            int want = signs.indexOf(sign) >= 0 ? whole : ahead.length();
            due("fault() of " + ahead + " and byte " + sign, Told.text(ahead + (char) sign).fault(), want);
        }
    }

    // ---- houses, pieces, streams

    private static void theTown() {
        sixHouses();
        sixPieces();
        tenStreams();
        numberedAsTold();
        setsAreBits();
        atFirstNothing();
        homeAndOwnerAtFirst();
    }

    private static void sixHouses() {
        says("HOUSES are 0, 1, .. (6 at most)");
        for (int houses = 0; houses <= 6; houses++) {
            FurnitureByFlood x = Told.text(SIX_HOUSES.substring(0, 3 * houses));
            due("town() of " + houses, x.town(), houses);
            due("about(0) of " + houses, x.about(0), houses);
            due("house(-1, 0) of " + houses, x.house(-1, 0), UNKNOWN);
            for (int house = 0; house <= 6; house++) {
                due("house(" + house + ", 1) of " + houses, x.house(house, 1), house < houses ? 1 : UNKNOWN);
            }
        }
        onlyThese("H01H01H01H01H01", "HSP", false);
        onlyThese(SIX_HOUSES, "SP", false);
        due("town() of seven", Told.text(SIX_HOUSES + "H01").town(), LATE);
    }

    private static void sixPieces() {
        says("PIECES 0, 1, .. (6 at most)");
        for (int pieces = 0; pieces <= 6; pieces++) {
            FurnitureByFlood x = Told.town("H01" + SIX_PIECES.substring(0, 5 * pieces));
            due("about(2) of " + pieces, x.about(2), pieces);
            due("piece(-1, 1) of " + pieces, x.piece(-1, 1), UNKNOWN);
            for (int piece = 0; piece <= 6; piece++) {
                due("piece(" + piece + ", 1) of " + pieces, x.piece(piece, 1), piece < pieces ? 1 : UNKNOWN);
            }
        }
        onlyThese("H01H01" + SIX_PIECES.substring(5), "HSP", false);
        onlyThese("H01H01" + SIX_PIECES, "HS", false);
        due("town() of seven", Told.text("H01" + SIX_PIECES + "P0110").town(), LATE);
    }

    private static void tenStreams() {
        says("STREAMS 0, 1, .. (10 at most)");
        for (int streams = 0; streams <= 10; streams++) {
            FurnitureByFlood x = Told.town(SIX_HOUSES + TEN_STREAMS.substring(0, 4 * streams));
            due("about(1) of " + streams, x.about(1), streams);
            due("stream(-1, 2) of " + streams, x.stream(-1, 2), UNKNOWN);
            for (int stream = 0; stream <= 10; stream++) {
                due("stream(" + stream + ", 2) of " + streams, x.stream(stream, 2), stream < streams ? 1 : UNKNOWN);
            }
        }
        onlyThese(SIX_HOUSES + TEN_STREAMS.substring(4), "SP", false);
        onlyThese(SIX_HOUSES + TEN_STREAMS, "P", false);
        onlyThese(SIX_HOUSES + TEN_STREAMS + SIX_PIECES, "", false);
        due("town() of eleven", Told.text(SIX_HOUSES + TEN_STREAMS + "S201").town(), LATE);
    }

    private static void numberedAsTold() {
        says("numbered as they are told");
        FurnitureByFlood x = Told.town("H11P0110H22P1220S105H33S216P2330");
        for (int i = 0; i < 3; i++) {
            due("house(" + i + ", 0)", x.house(i, 0), i + 1);
            due("piece(" + i + ", 4)", x.piece(i, 4), i);
        }
        due("stream(0, 2)", x.stream(0, 2), 5);
        due("stream(1, 2)", x.stream(1, 2), 6);
    }

    private static void setsAreBits() {
        says("sets of HOUSES, PIECES are bits");
        FurnitureByFlood x = Told.town("H09H09H09H09H09H09S459P0110P0110P0110P0110P0110P4110");
        due("house(0, 2): 0 to 4", x.house(0, 2), 31);
        due("house(4, 2): the last one alone", x.house(4, 2), 32);
        due("house(5, 2): none", x.house(5, 2), 0);
        due("ties(32, 1, 1, true): the last one alone", x.ties(32, 1, 1, true), 32);
        due("ties(63, 1, 1, true): all are told", x.ties(63, 1, 1, true), 32);
        due("ties(31, 1, 1, true): all but the last", x.ties(31, 1, 1, true), 0);
        due("ties(64, 1, 1, true): one that is not", x.ties(64, 1, 1, true), BAD);
        due("ends(0, 0): the first one alone", x.ends(0, 0), 1);
        due("ends(0, 5): the last one alone", x.ends(0, 5), 32);
        due("ends(1, 4): the last two", x.ends(1, 4), 48);
        due("hour(1): the last one alone", x.hour(1), 32);
        due("hour(1): none", x.hour(1), 0);
        FurnitureByFlood y = Told.town("H01H01S019" + SIX_PIECES);
        due("jams(1): all but the first", y.jams(1), 62);
        due("jams(0): none", y.jams(0), 0);
    }

    private static void atFirstNothing() {
        says("At first there is nothing.");
        FurnitureByFlood x = new FurnitureByFlood();
        due("fault()", x.fault(), NONE);
        for (int what = 0; what <= 8; what++) {
            due("about(" + what + ")", x.about(what), 0);
        }
        due("wipe()", x.wipe(), 0);
        due("house(0, 0)", x.house(0, 0), UNKNOWN);
        due("stream(0, 0)", x.stream(0, 0), UNKNOWN);
        due("piece(0, 0)", x.piece(0, 0), UNKNOWN);
        due("jams(19)", x.jams(19), 0);
        due("ties(0, 19, 9, false)", x.ties(0, 19, 9, false), 0);
        due("ties(1, 19, 9, false)", x.ties(1, 19, 9, false), BAD);
    }

    private static void homeAndOwnerAtFirst() {
        says("Where a PIECE is told is its HOME, and its OWNER at first.");
        FurnitureByFlood x = Told.town("H01H01H01H01H01H01P0110P1110P2110P3110P4110P5110");
        for (int piece = 0; piece < 6; piece++) {
            due("piece(" + piece + ", 0)", x.piece(piece, 0), piece);
            due("piece(" + piece + ", 4)", x.piece(piece, 4), piece);
            due("piece(" + piece + ", 5)", x.piece(piece, 5), piece);
            due("owner(" + piece + ", 0)", x.owner(piece, 0), piece);
            due("owner(" + piece + ", 1)", x.owner(piece, 1), NONE);
        }
    }

    // ---- the text

    private static void theText() {
        says("THE TEXT is bytes (96 at most)");
        for (int n = 1; n <= 8; n++) {
            FurnitureByFlood x = new FurnitureByFlood();
            for (int length = n; length <= 96; length += n) {
                due("write(" + n + ", 0) to " + length, x.write(n, 0), length);
            }
            int length = 96 / n * n;
            due("write(" + n + ", 0) to " + (length + n), x.write(n, 0), FULL);
            due("about(8)", x.about(8), length);
            int left = 96 - length;
            due("write(" + (left + 1) + ", 0) to 97", x.write(left + 1, 0), FULL);
            if (left > 0) {
                due("write(" + left + ", 0) to 96", x.write(left, 0), 96);
            }
            due("write(1, 0) behind 96", x.write(1, 0), FULL);
            due("about(8) of the full one", x.about(8), 96);
        }
        firstFault();
    }

    private static void firstFault() {
        says("the place (from 0) of the first byte by which THE TEXT can be no TOWN, whatever came behind it");
        fault("h", 0);
        fault("hH01", 0);
        fault("H01hH01", 3);
        fault("H0x0", 2);
        fault("H01x01x01", 3);
        fault("H01S01H01", 3);
        fault("H01H01S00S00", 8);
        says("(its length set aside)");
        String all = SIX_HOUSES + TEN_STREAMS + SIX_PIECES;
        fault(all, NONE);
        fault(all + "HHHHHHHH", 88);
        says("its length, if it is only not at its end; NONE: none");
        String text = "H01H01S015P0110H99S105";
        String ends = " 3 6 10 15 18 22 ";
        for (int length = 0; length <= text.length(); length++) {
            boolean isEnd = length == 0 || ends.contains(" " + length + " ");
            fault(text.substring(0, length), isEnd ? NONE : length);
        }
    }

    // ---- the parts, byte by byte

    private static void theParts() {
        says("A TOWN is a TEXT of PARTS, none or more, one behind the other");
        due("town() of nothing", new FurnitureByFlood().town(), 0);
        onlyThese("", "H", false);
        onlyThese("H01", "HP", false);
        onlyThese("H01H01", "HSP", false);
        onlyThese("H01H01S015", "HSP", false);
        onlyThese("H01H01S015P0110", "HSP", false);
        partsOfHouses();
        partsOfStreams();
        tenTenths();
        partsOfPieces();
    }

    private static void partsOfHouses() {
        says("a HOUSE of height h (0 .. 9)");
        onlyThese("H", DIGITS, false);
        says("whose DOOR lets d through (1 .. 9)");
        onlyThese("H0", FROM_ONE, true);
        onlyThese("H9", FROM_ONE, true);
        for (int h = 0; h <= 9; h++) {
            for (int d = 1; d <= 9; d++) {
                FurnitureByFlood x = Told.town("H" + h + d);
                due("house(0, 0) of " + h + d, x.house(0, 0), h);
                due("house(0, 1) of " + h + d, x.house(0, 1), d);
            }
        }
    }

    private static void partsOfStreams() {
        says("a STREAM from HOUSE a to HOUSE b (unlike ones, both told ahead of it");
        for (int houses = 2; houses <= 6; houses++) {
            String ahead = SIX_HOUSES.substring(0, 3 * houses) + "S";
            onlyThese(ahead, DIGITS.substring(0, houses), false);
            for (int a = 0; a < houses; a++) {
                onlyThese(ahead + a, DIGITS.substring(0, houses).replace("" + a, ""), false);
            }
        }
        fault("S011H01H01", 0);
        fault("H01S011H01", 3);
        fault("H01H01S021H01", 8);
        fault("H01H01S201H01", 7);
        says("no a and b twice");
        onlyThese("H01H01H01S011S0", "2", false);
        onlyThese("H01H01H01S011S1", "02", false);
        onlyThese("H01H01H01S011S101S1", "2", false);
        onlyThese("H01H01H01S011S021S", "12", false);
        onlyThese("H01H01S011S", "1", false);
        onlyThese("H01H01S011S101", "HP", false);
        onlyThese("H01H01S011S101H01S", "012", false);
        onlyThese("H01H01S011S101H01S0", "2", false);
        says("of t tenths (1 .. 9)");
        onlyThese("H01H01S01", FROM_ONE, true);
        for (int t = 1; t <= 9; t++) {
            FurnitureByFlood x = Told.town("H01H01S10" + t);
            due("stream(0, 0) of " + t, x.stream(0, 0), 1);
            due("stream(0, 1) of " + t, x.stream(0, 1), 0);
            due("stream(0, 2) of " + t, x.stream(0, 2), t);
        }
    }

    private static void tenTenths() {
        says("from one HOUSE no more than ten tenths together");
        for (int t = 1; t <= 9; t++) {
            onlyThese("H01H01H01S01" + t + "S02", FROM_ONE.substring(0, 10 - t), true);
            // what comes to a house, and what goes from others, is not counted
            onlyThese("H01H01H01S01" + t + "S12", FROM_ONE, true);
            onlyThese("H01H01H01S01" + t + "S21", FROM_ONE, true);
        }
        onlyThese("H01H01H01H01S013S023S03", "1234", true);
        onlyThese("H01H01H01H01S014S025S03", "1", true);
        onlyThese("H01H01H01H01S015S025S", "123", false);
        onlyThese("H01H01H01H01S015S024S", "0123", false);
    }

    private static void partsOfPieces() {
        says("a PIECE in HOUSE g (told ahead of it)");
        for (int houses = 1; houses <= 6; houses++) {
            onlyThese(SIX_HOUSES.substring(0, 3 * houses) + "P", DIGITS.substring(0, houses), false);
        }
        fault("P0110H01", 0);
        fault("H01P1110H01", 4);
        says("w wide (1 .. 9)");
        onlyThese("H01P0", FROM_ONE, false);
        says("FLOATS where water is f deep or more (1 .. 9)");
        onlyThese("H01P01", FROM_ONE, false);
        says("its TIE holds to a depth of x (0 .. 9; 0: it has none)");
        onlyThese("H01P011", DIGITS, true);
        for (int i = 1; i <= 9; i++) {
            FurnitureByFlood x = Told.town("H01P0" + i + (10 - i) + (i * 7 % 10));
            due("piece(0, 1) of " + i, x.piece(0, 1), i);
            due("piece(0, 2) of " + i, x.piece(0, 2), 10 - i);
            due("piece(0, 3) of " + i, x.piece(0, 3), i * 7 % 10);
        }
        FurnitureByFlood none = Told.town("H09H09S019P0110");
        due("goesFrom(0) of one that has none", none.goesFrom(0), 1);
    }

    // ---- floods

    private static void floods() {
        says("At a LEVEL (0 .. 19) water in a HOUSE is as deep as that is more than its height (0 at least).");
        for (int h = 0; h <= 9; h++) {
            FurnitureByFlood x = Told.town("H" + h + "1");
            for (int level = 0; level <= 19; level++) {
                due("deep(0, " + level + ") of height " + h, x.deep(0, level), level < h ? 0 : level - h);
            }
            due("deep(0, -1) of height " + h, x.deep(0, -1), BAD);
            due("deep(0, 20) of height " + h, x.deep(0, 20), BAD);
        }
        floatsAtThatDepth();
        tiesHoldToThatDepth();
        tiesOfThoseThatDoNotFloat();
        strongestStream();
        noStreamToGoBy();
    }

    private static void floatsAtThatDepth() {
        says("FLOATS where water is f deep or more");
        for (int h = 0; h <= 9; h++) {
            for (int f = 1; f <= 9; f++) {
                FurnitureByFlood x = Told.town("H" + h + "9H99S019P01" + f + "0");
                String of = " of height " + h + ", depth " + f;
                for (int level = 0; level <= 19; level++) {
                    due("after(0, " + level + ", 1)" + of, x.after(0, level, 1), level - h >= f ? 1 : 0);
                }
                due("goesFrom(0)" + of, x.goesFrom(0), h + f);
                due("hour(one less)" + of, x.hour(h + f - 1), 0);
                due("hour(as deep)" + of, x.hour(h + f), 1);
            }
        }
    }

    private static void tiesHoldToThatDepth() {
        says("breaks its TIE, if that does not hold to such a depth (it has none then)");
        for (int h = 0; h <= 9; h += 3) {
            for (int tie = 1; tie <= 9; tie++) {
                FurnitureByFlood x = Told.town("H" + h + "9H99S019P011" + tie);
                String of = " of height " + h + ", tie " + tie;
                due("hour(as it holds)" + of, x.hour(h + tie), 0);
                due("piece(0, 3) that held" + of, x.piece(0, 3), tie);
                due("goesFrom(0)" + of, x.goesFrom(0), h + tie + 1);
                due("hour(one more)" + of, x.hour(h + tie + 1), 1);
                due("piece(0, 3) that broke" + of, x.piece(0, 3), 0);
            }
        }
    }

    private static void tiesOfThoseThatDoNotFloat() {
        says("each PIECE that FLOATS where it is breaks its TIE");
        FurnitureByFlood x = Told.town("H09H09S019P0193P0113");
        due("hour(8): the first one does not float", x.hour(8), 2);
        due("its tie is whole", x.piece(0, 3), 3);
        due("hour(9): it floats", x.hour(9), 1);
        due("its tie is broken", x.piece(0, 3), 0);
        FurnitureByFlood y = Told.town("H09P0112");
        due("hour(3) where no stream leads on", y.hour(3), 0);
        due("its tie is broken also there", y.piece(0, 3), 0);
        FurnitureByFlood z = Told.town("H01H09S019P0912");
        due("hour(3) that jams it", z.hour(3), 0);
        due("its tie is broken also then", z.piece(0, 3), 0);
    }

    private static void strongestStream() {
        says("go, by number, to where the strongest STREAM from their HOUSE leads that is not SHUT"
            + " (of like ones the one that is told first");
        for (int t = 1; t <= 9; t++) {
            for (int u = 1; t + u <= 10; u++) {
                FurnitureByFlood x = Told.town("H09H09H09S02" + t + "S01" + u + "P0110");
                String of = " of " + t + " ahead of " + u;
                due("after(0, 1, 1)" + of, x.after(0, 1, 1), u > t ? 1 : 2);
                x.shut(u > t ? 1 : 0, true);
                due("after(0, 1, 1) when that is shut" + of, x.after(0, 1, 1), u > t ? 2 : 1);
            }
        }
        FurnitureByFlood like = Told.town("H09H09H09H09S033S013S023P0110");
        due("after(0, 1, 1) of three like ones", like.after(0, 1, 1), 3);
        like.shut(0, true);
        due("after(0, 1, 1) of two like ones", like.after(0, 1, 1), 1);
        FurnitureByFlood others = Told.town("H09H09H09S129S011P0110");
        due("after(0, 1, 1): a stronger one from elsewhere", others.after(0, 1, 1), 1);
    }

    private static void noStreamToGoBy() {
        says("if there is none, they stay");
        FurnitureByFlood x = Told.town("H09H09S109P0110");
        due("jams(19)", x.jams(19), 0);
        due("hour(19)", x.hour(19), 0);
        due("piece(0, 0)", x.piece(0, 0), 0);
        FurnitureByFlood y = Told.town("H09H09S019P0110");
        y.shut(0, true);
        due("jams(19) of a shut one", y.jams(19), 0);
        due("hour(19) of a shut one", y.hour(19), 0);
        y.shut(0, false);
        due("hour(19) of an open one", y.hour(19), 1);
    }

    // ---- doors

    private static void doors() {
        says("each lets so much width through in an HOUR");
        for (int d = 1; d <= 9; d++) {
            for (int w = 1; w <= 9; w++) {
                int goes = w <= d ? 1 : 0;
                String of = " of width " + w + ", door " + d;
                FurnitureByFlood x = Told.town("H0" + d + "H09S019P0" + w + "10");
                due("jams(1) where it was" + of, x.jams(1), 1 - goes);
                due("hour(1) where it was" + of, x.hour(1), goes);
                FurnitureByFlood y = Told.town("H09H0" + d + "S019P0" + w + "10");
                due("jams(1) at the other one" + of, y.jams(1), 1 - goes);
                due("hour(1) at the other one" + of, y.hour(1), goes);
                due("piece(0, 0)" + of, y.piece(0, 0), goes);
            }
        }
        FurnitureByFlood z = Told.town("H04H09S019P0210P0210P0110");
        due("hour(1): four and no more", z.hour(1), 3);
        due("hour(1): four once more", z.hour(1), 4);
        inAndOutTogether();
        bothDoorsLetThem();
        byNumber();
        asTheHourBegan();
    }

    private static void inAndOutTogether() {
        says("in and out together");
        FurnitureByFlood x = Told.town("H09H05H09S019S129P0310P1210");
        due("hour(1): three in, two out", x.hour(1), 3);
        FurnitureByFlood y = Told.town("H09H05H09S019S129P0310P1310");
        due("hour(1): three in, three out", y.hour(1), 1);
        FurnitureByFlood z = Told.town("H09H05H09S019S129P1310P0310");
        due("hour(1): three out, three in", z.hour(1), 1);
        due("jams(1) then", z.jams(1), 0);
        FurnitureByFlood u = Told.town("H09H05H09S019S219P0310P2310");
        due("hour(1): three in, three in", u.hour(1), 1);
    }

    private static void bothDoorsLetThem() {
        says("if both DOORS let them");
        FurnitureByFlood x = Told.town("H05H01H09S016S024P0510P0510");
        due("jams(1) of the other door", x.jams(1), 3);
        due("hour(1) of the other door", x.hour(1), 0);
        due("both stay", x.house(0, 2), 3);
        says("else they JAM: they stay");
        // what jams at one door takes nothing of the other one
        FurnitureByFlood y = Told.town("H05H01S019P0510P0110");
        due("hour(1) behind one that jams", y.hour(1), 2);
        FurnitureByFlood z = Told.town("H01H05H09S019S219P0510P2510");
        due("hour(1) of the one that comes from elsewhere", z.hour(1), 2);
        // it does not go by a weaker stream
        FurnitureByFlood u = Told.town("H09H01H09S016S024P0210");
        due("hour(1) where a weaker stream would let it", u.hour(1), 0);
    }

    private static void byNumber() {
        says("go, by number");
        FurnitureByFlood x = Told.town("H09H03S019P0210P0210P0110");
        due("hour(1): 0, then 2, but not 1", x.hour(1), 5);
        FurnitureByFlood y = Told.town("H09H03S019P0110P0210P0210");
        due("hour(1): 0, then 1, but not 2", y.hour(1), 3);
        FurnitureByFlood z = Told.town("H09H03H09S019S211P2310P0110");
        due("hour(1): by number, not by stream", z.hour(1), 1);
    }

    private static void asTheHourBegan() {
        says("(All are where they were as the HOUR began, for this.)");
        FurnitureByFlood x = Told.town("H09H09S019S109P0110P1110");
        due("hour(1): they change places", x.hour(1), 3);
        due("piece(0, 0)", x.piece(0, 0), 1);
        due("piece(1, 0)", x.piece(1, 0), 0);
        FurnitureByFlood y = Told.town("H09H09H09S019S129P0110");
        due("hour(1): one stream, not two", y.hour(1), 1);
        due("piece(0, 0)", y.piece(0, 0), 1);
        // dry where it is, though others come to where it is deep
        FurnitureByFlood z = Told.town("H29H09S109S019P1110P0110");
        due("hour(1): house 0 is dry", z.hour(1), 1);
        due("hour(1): both are dry now", z.hour(1), 0);
    }

    // ---- springs and acts

    private static void springsAndActs() {
        says("if that is another one than before, it is one more of its OWNERS");
        FurnitureByFlood x = Told.town("H01H01P0110");
        due("spring() at home", x.spring(), 0);
        due("owner(0, 1)", x.owner(0, 1), NONE);
        x.carry(0, 1);
        x.carry(0, 0);
        due("spring() when it is back", x.spring(), 0);
        x.carry(0, 1);
        due("spring() elsewhere", x.spring(), 1);
        due("owner(0, 1)", x.owner(0, 1), 1);
        due("spring() of the same", x.spring(), 0);
        due("owner(0, 2)", x.owner(0, 2), NONE);
        x.carry(0, 0);
        due("spring() at home again", x.spring(), 1);
        due("owner(0, 2)", x.owner(0, 2), 0);
        due("about(6)", x.about(6), 0);
        eightOwners();
        twelveActs();
        lastActUndone();
        noActs();
    }

    private static void eightOwners() {
        says("(8 are told at most: what is beyond is not)");
        FurnitureByFlood x = Told.town("H01H01H01P0110P0110");
        for (int more = 1; more <= 10; more++) {
            x.carry(0, more % 3);
            due("spring() of one more, " + more, x.spring(), 1);
            due("piece(0, 5), " + more, x.piece(0, 5), more % 3);
            for (int i = 0; i <= 11; i++) {
                int want = i <= more && i < 8 ? i % 3 : NONE;
                due("owner(0, " + i + ") of " + (more + 1), x.owner(0, i), want);
            }
        }
        due("owner(1, 0) of the other one", x.owner(1, 0), 0);
        due("owner(1, 1) of the other one", x.owner(1, 1), NONE);
        due("about(6)", x.about(6), 1);
    }

    private static void twelveActs() {
        says("ACTS (HOURS, SPRINGS) are a row (12 at most; when it is full, the first one is forgotten)");
        for (int done = 0; done <= 26; done++) {
            FurnitureByFlood x = Told.town("H01P0110");
            for (int i = 0; i < done; i++) {
                x.tie(0, i % 10);
                x.hour(0);
            }
            x.tie(0, 0);
            int left = Math.min(done, 12);
            due("about(4) of " + done, x.about(4), left);
            for (int i = 1; i <= left; i++) {
                due("undo() " + i + " of " + done, x.undo(), left - i);
                due("piece(0, 3) behind it", x.piece(0, 3), (done - i) % 10);
            }
            due("undo() of none that is left", x.undo(), LATE);
        }
        actsToAndFro();
    }

    /** The row grows and shrinks by turns, so that it comes round more than once. */
    private static void actsToAndFro() {
        int[] turns = {12, -5, 9, -12, 3, -3, 20, -7, 7, -1, 1, -13};
        FurnitureByFlood x = Told.town("H01P0110");
        ArrayDeque<Integer> ahead = new ArrayDeque<>();
        int number = 0;
        for (int turn : turns) {
            for (int i = 0; i < turn; i++) {
                number = (number + 3) % 10;
                x.tie(0, number);
                x.spring();
                ahead.addLast(number);
                if (ahead.size() > 12) {
                    ahead.removeFirst();
                }
            }
            for (int i = 0; i < -turn; i++) {
                if (ahead.isEmpty()) {
                    due("undo() of none", x.undo(), LATE);
                } else {
                    int was = ahead.removeLast();
                    due("undo() to and fro", x.undo(), ahead.size());
                    due("piece(0, 3) then", x.piece(0, 3), was);
                }
            }
            due("about(4) to and fro", x.about(4), ahead.size());
        }
    }

    private static void lastActUndone() {
        says("(where PIECES are, TIES, OWNERS, how many SPRINGS are as they were ahead of it)");
        FurnitureByFlood x = Told.town("H09H09S019P0110P1115");
        x.hour(6);
        due("piece(0, 0) behind the hour", x.piece(0, 0), 1);
        due("piece(1, 3) behind the hour", x.piece(1, 3), 0);
        x.spring();
        due("piece(0, 5) behind the spring", x.piece(0, 5), 1);
        due("undo() of the spring", x.undo(), 1);
        due("how many SPRINGS", x.about(3), 0);
        due("OWNERS: piece(0, 5)", x.piece(0, 5), 0);
        due("OWNERS: owner(0, 1)", x.owner(0, 1), NONE);
        due("where it is", x.piece(0, 0), 1);
        due("undo() of the hour", x.undo(), 0);
        due("where it was", x.piece(0, 0), 0);
        due("TIES", x.piece(1, 3), 5);
        due("undo() of none", x.undo(), LATE);
        // neither what is SHUT nor MARKS are told there
        x.hour(0);
        x.shut(0, true);
        x.mark(1, 0);
        x.undo();
        due("what is SHUT stays", x.stream(0, 3), 1);
        due("MARKS stay", x.about(7), 1);
        x.hour(0);
        x.shut(0, false);
        x.unmark();
        x.undo();
        due("what is not SHUT stays so", x.stream(0, 3), 0);
        due("no MARKS stay none", x.about(7), 0);
    }

    private static void noActs() {
        says("STREAMS may be SHUT, or not; PIECES TIED otherwise, carried by hand to a HOUSE: these are no ACTS.");
        FurnitureByFlood x = Told.town("H09H09S019P0110");
        x.shut(0, true);
        due("about(4) of shut()", x.about(4), 0);
        x.tie(0, 5);
        due("about(4) of tie()", x.about(4), 0);
        x.carry(0, 1);
        due("about(4) of carry()", x.about(4), 0);
        due("undo()", x.undo(), LATE);
        due("piece(0, 0)", x.piece(0, 0), 1);
        due("piece(0, 3)", x.piece(0, 3), 5);
        due("stream(0, 3)", x.stream(0, 3), 1);
        x.hour(0);
        due("about(4) of hour()", x.about(4), 1);
        x.spring();
        due("about(4) of spring()", x.about(4), 2);
    }

    // ---- plans

    private static void plans() {
        oneToNineHours();
        tieNineAtMost();
        tiesToTheDepth();
        tiesWhereverBetween();
        leastCostLeastSet();
        dowryLeastHouse();
        toShutEdges();
        drawnEdges();
        goesFromEdges();
    }

    private static void oneToNineHours() {
        says("n HOURS (1 .. 9) at a LEVEL are looked at in what follows, from how all is now on");
        // a ring of three: behind n hours it is n houses on
        FurnitureByFlood x = Told.town("H09H09H09S019S129S209P0110");
        for (int n = 1; n <= 9; n++) {
            due("after(0, 1, " + n + ")", x.after(0, 1, n), n % 3);
            due("dowry(0, 1, " + n + ", 0)", x.dowry(0, 1, n, 0), (9 - n) % 3);
            due("ties(1, 1, " + n + ", false)", x.ties(1, 1, n, false), n % 3 == 0 ? 0 : 1);
            due("toShut(0, 1, " + n + ")", x.toShut(0, 1, n), n % 3 == 0 ? NONE : 0);
        }
        FurnitureByFlood two = Told.town("H09H09S015P0110");
        for (int n = 1; n <= 9; n++) {
            due("drawn(0, 1, " + n + ", 0, false)", two.drawn(0, 1, n, 0, false), 1 << n);
        }
        for (int n : new int[] {0, 10, -1, -9}) {
            due("after(0, 1, " + n + ")", x.after(0, 1, n), BAD);
            due("ties(1, 1, " + n + ", true)", x.ties(1, 1, n, true), BAD);
            due("dowry(0, 1, " + n + ", 0)", x.dowry(0, 1, n, 0), BAD);
            due("toShut(0, 1, " + n + ")", x.toShut(0, 1, n), BAD);
            due("drawn(0, 1, " + n + ", 0, true)", x.drawn(0, 1, n, 0, true), BAD);
        }
        says("from how all is now on");
        x.hour(1);
        due("after(0, 1, 1) behind an hour", x.after(0, 1, 1), 2);
        x.tie(0, 1);
        due("after(0, 1, 1) when it is tied", x.after(0, 1, 1), 1);
        x.carry(0, 2);
        due("after(0, 2, 1) when it is carried", x.after(0, 2, 1), 0);
    }

    private static void bothTies(FurnitureByFlood x, int pieces, int level, int n, int cost, int set) {
        String call = "ties(" + pieces + ", " + level + ", " + n + ", ";
        due(call + "false)", x.ties(pieces, level, n, false), cost);
        due(call + "true)", x.ties(pieces, level, n, true), set);
    }

    private static void tieNineAtMost() {
        says("to the depth at that LEVEL in their HOUSE, 9 at most");
        for (int h = 0; h <= 9; h += 3) {
            FurnitureByFlood x = Told.town("H" + h + "9H09S019P0110");
            bothTies(x, 1, h + 1, 1, 1, 1);
            bothTies(x, 1, h + 9, 9, 9, 1);
            bothTies(x, 1, h + 10, 1, NONE, NONE);
            bothTies(x, 1, h, 9, 0, 0);
        }
        // deeper than nine a tie is paid with nine, and breaks
        FurnitureByFlood y = Told.town("H09H09S019P0110");
        bothTies(y, 0, 19, 9, 0, 0);
        says("NONE: it can not be");
        bothTies(y, 1, 19, 1, NONE, NONE);
        bothTies(y, 1, 10, 9, NONE, NONE);
    }

    private static void tiesToTheDepth() {
        says("each costs as much; others are as they are");
        FurnitureByFlood x = Told.town("H09H39S019S109P0110P1110P0119");
        bothTies(x, 1, 5, 1, 5, 1);
        bothTies(x, 2, 5, 1, 2, 2);
        bothTies(x, 3, 5, 1, 7, 3);
        // the third one is tied already: it costs nothing
        bothTies(x, 4, 5, 1, 0, 0);
        bothTies(x, 7, 5, 1, 7, 3);
        says("by which all told ones are behind all HOURS");
        bothTies(x, 0, 5, 1, 0, 0);
        // the tie that is less than the depth does not hold, one as deep does
        x.tie(2, 4);
        bothTies(x, 4, 5, 1, 5, 4);
        x.tie(2, 5);
        bothTies(x, 4, 5, 1, 0, 0);
    }

    private static void tiesWhereverBetween() {
        says("(wherever they were between) where they are now");
        FurnitureByFlood x = Told.town("H09H09S019S109P0110");
        bothTies(x, 1, 3, 1, 3, 1);
        bothTies(x, 1, 3, 2, 0, 0);
        bothTies(x, 1, 3, 8, 0, 0);
        bothTies(x, 1, 3, 9, 3, 1);
        bothTies(x, 1, 19, 8, 0, 0);
        bothTies(x, 1, 19, 9, NONE, NONE);
        x.hour(1);
        bothTies(x, 1, 3, 1, 3, 1);
        bothTies(x, 1, 3, 2, 0, 0);
    }

    /** Piece 1 goes 0 -> 1 -> 0 in two hours, if piece 0 does not take the door of house 1 ahead of it. */
    private static void leastCostLeastSet() {
        says("of like costs the least set");
        FurnitureByFlood x = Told.town("H09H25H09S019S109S219P2530P0310");
        bothTies(x, 2, 3, 2, 3, 1);
        // pieces 0 and 1 for two each, or piece 2 for four: the set of the lesser bits, though it is of more
        FurnitureByFlood z = Told.town("H19H46H39S019S109S219P2320P2320P0410");
        bothTies(z, 4, 5, 2, 4, 3);
        says("the least cost");
        FurnitureByFlood w = Told.town("H29H46H39S019S109S219P2320P2320P0410");
        bothTies(w, 4, 5, 2, 3, 4);
        FurnitureByFlood y = Told.town("H19H25H09S019S109S219P2530P0310");
        bothTies(y, 2, 3, 2, 2, 2);
    }

    private static void dowryLeastHouse() {
        says("the least HOUSE in which a PIECE must be put (as it is else) to be in a told HOUSE behind them; NONE");
        FurnitureByFlood x = Told.town("H09H09H09H09H09H09S019S219S319S509P5110");
        due("dowry(0, 1, 1, 1): of three the least", x.dowry(0, 1, 1, 1), 0);
        due("dowry(0, 1, 2, 1): of all the least", x.dowry(0, 1, 2, 1), 0);
        due("dowry(0, 0, 1, 1): where it stays", x.dowry(0, 0, 1, 1), 1);
        due("dowry(0, 1, 1, 0): the last house", x.dowry(0, 1, 1, 0), 5);
        due("dowry(0, 1, 1, 4): where no stream leads", x.dowry(0, 1, 1, 4), 4);
        due("dowry(0, 1, 2, 0): none", x.dowry(0, 1, 2, 0), NONE);
        due("dowry(0, 1, 1, 5): not even where it is", x.dowry(0, 1, 1, 5), NONE);
        x.tie(0, 3);
        due("dowry(0, 3, 9, 5): tied as it is", x.dowry(0, 3, 9, 5), 5);
        due("dowry(0, 4, 9, 5): it breaks", x.dowry(0, 4, 9, 5), NONE);
        due("piece(0, 0): it was not put", x.piece(0, 0), 5);
    }

    private static void toShutEdges() {
        says("the STREAM that, if it is SHUT, makes the width of all PIECES in that HOUSE behind them most");
        FurnitureByFlood x = Told.town("H09H09H09S019S219S129P0110P2210P1310");
        due("toShut(0, 1, 1)", x.toShut(0, 1, 1), 0);
        due("toShut(2, 1, 1)", x.toShut(2, 1, 1), 1);
        due("toShut(1, 1, 1)", x.toShut(1, 1, 1), 2);
        says("of like ones the least");
        FurnitureByFlood z = Told.town("H09H09H09H09S215S234S015S034P0310P2310");
        due("toShut(3, 1, 1) of two like ones", z.toShut(3, 1, 1), 0);
        FurnitureByFlood w = Told.town("H09H09H09H09S015S215S034S234P0310P2410");
        due("toShut(3, 1, 1) of two unlike ones", w.toShut(3, 1, 1), 1);
        says("NONE: by none it is more than by none");
        due("toShut(0, 0, 9) of what is dry", x.toShut(0, 0, 9), NONE);
        due("toShut(0, 19, 9) of no stream", Told.town("H09P0110").toShut(0, 19, 9), NONE);
        due("toShut(0, 19, 9) of no piece", Told.town("H09H09S019").toShut(0, 19, 9), NONE);
        FurnitureByFlood all = Told.town("H09H09S019P0110P1110");
        due("toShut(1, 1, 1): all are there", all.toShut(1, 1, 1), NONE);
        due("toShut(0, 1, 1): one would stay", all.toShut(0, 1, 1), 0);
        all.shut(0, true);
        due("toShut(0, 1, 1): it stays already", all.toShut(0, 1, 1), NONE);
        due("toShut(1, 1, 1): none would go", all.toShut(1, 1, 1), NONE);
    }

    private static void chance(FurnitureByFlood x, int level, int n, int house, long upper, long lower) {
        String call = "drawn(0, " + level + ", " + n + ", " + house + ", ";
        due(call + "true)", x.drawn(0, level, n, house, true), upper);
        due(call + "false)", x.drawn(0, level, n, house, false), lower);
    }

    private static void drawnEdges() {
        says("by what is left of ten it stays");
        for (int t = 1; t <= 9; t++) {
            FurnitureByFlood x = Told.town("H09H09S01" + t + "P0110");
            int common = t == 5 ? 5 : t % 2 == 0 ? 2 : 1;
            chance(x, 1, 1, 0, (10 - t) / common, 10 / common);
            chance(x, 1, 1, 1, t / common, 10 / common);
        }
        FurnitureByFlood ten = Told.town("H09H09H09S019S021P0110");
        chance(ten, 1, 1, 0, 0, 1);
        chance(ten, 1, 9, 1, 9, 10);
        ten.shut(0, true);
        chance(ten, 1, 1, 0, 9, 10);
        says("a PIECE that FLOATS");
        FurnitureByFlood y = Told.town("H29H29S015P0130");
        chance(y, 4, 9, 0, 1, 1);
        chance(y, 4, 9, 1, 0, 1);
        chance(y, 5, 1, 1, 1, 2);
        says("(no TIES, no DOORS)");
        FurnitureByFlood z = Told.town("H01H01S015P0919");
        chance(z, 1, 1, 1, 1, 2);
        says("in least terms");
        chance(z, 1, 9, 0, 1, 512);
        chance(z, 1, 9, 1, 511, 512);
        FurnitureByFlood most = Told.town("H01H01S019P0110");
        chance(most, 1, 9, 0, 1, 1000000000);
        chance(most, 1, 9, 1, 999999999, 1000000000);
    }

    private static void goesFromEdges() {
        says("the least LEVEL at which a PIECE goes, or JAMS, in one HOUR where it is, as it is TIED now");
        for (int h = 0; h <= 9; h++) {
            for (int tie = 0; tie <= 9; tie++) {
                FurnitureByFlood x = Told.town("H" + h + "1H01S019P094" + tie);
                due("goesFrom(0) of " + h + ", " + tie, x.goesFrom(0), h + Math.max(4, tie + 1));
            }
        }
        FurnitureByFlood y = Told.town("H91H01S019P0110");
        y.tie(0, 9);
        due("goesFrom(0): the highest there is", y.goesFrom(0), 19);
        due("hour(18)", y.hour(18), 0);
        due("hour(19)", y.hour(19), 1);
        says("if a STREAM that is not SHUT leads from there; NONE");
        due("goesFrom(0) where it is now", y.goesFrom(0), NONE);
        y.carry(0, 0);
        due("goesFrom(0) where it was", y.goesFrom(0), 10);
        y.shut(0, true);
        due("goesFrom(0) of a shut one", y.goesFrom(0), NONE);
    }

    // ---- marks and slots

    private static void marksAndSlots() {
        eightMarks();
        rowsOfSprings();
        marksUpToN();
        whetherShutOrNot();
        twoSlots();
        whatIsKept();
        noneIsLess();
    }

    private static void eightMarks() {
        says("at some SPRING (1 .. 9), 8 at most, none at first");
        FurnitureByFlood x = Told.town("H01H01S015");
        due("about(7) at first", x.about(7), 0);
        due("mark(0, 0)", x.mark(0, 0), BAD);
        due("mark(10, 0)", x.mark(10, 0), BAD);
        for (int spring = 1; spring <= 8; spring++) {
            due("mark(" + spring + ", 1)", x.mark(spring, 1), spring);
        }
        due("mark(9, 1)", x.mark(9, 1), FULL);
        due("about(7)", x.about(7), 8);
        due("ends(8, 0)", x.ends(8, 0), 2);
        x.unmark();
        due("mark(9, 0)", x.mark(9, 0), 1);
        due("ends(9, 0) of the ninth", x.ends(9, 0), 1);
        due("ends(8, 0) ahead of the ninth", x.ends(8, 0), 3);
    }

    private static void rowsOfSprings() {
        says("ROWS of n SPRINGS (0 .. 9) from a HOUSE: HOUSES one behind the other");
        FurnitureByFlood x = Told.town("H01H01S015");
        for (int n = 0; n <= 9; n++) {
            due("rows(" + n + ", 0)", x.rows(n, 0), n + 1);
            due("rows(" + n + ", 1)", x.rows(n, 1), 1);
            due("ends(" + n + ", 0)", x.ends(n, 0), n == 0 ? 1 : 3);
            due("ends(" + n + ", 1)", x.ends(n, 1), 2);
        }
        for (int n : new int[] {-1, 10}) {
            due("rows(" + n + ", 0)", x.rows(n, 0), BAD);
            due("ends(" + n + ", 0)", x.ends(n, 0), BAD);
        }
        FurnitureByFlood ring = Told.town("H01H01H01H01H01H01S011S121S231S341S451S501");
        for (int n = 0; n <= 9; n++) {
            due("rows(" + n + ", 3) of a ring", ring.rows(n, 3), 1L << n);
        }
        due("ends(2, 4) of a ring", ring.ends(2, 4), 16 + 32 + 1);
        due("ends(5, 4) of a ring", ring.ends(5, 4), 63);
    }

    private static void marksUpToN() {
        says("so that all MARKS of SPRINGS up to n hold");
        for (int spring = 1; spring <= 9; spring++) {
            FurnitureByFlood x = Told.town("H01H01S015");
            x.mark(spring, 1);
            for (int n = 0; n <= 9; n++) {
                // with the mark it has gone over by then
                due("rows(" + n + ", 0) of " + spring, x.rows(n, 0), n < spring ? n + 1 : spring);
                due("ends(" + n + ", 0) of " + spring, x.ends(n, 0), n == 0 ? 1 : n < spring ? 3 : 2);
            }
            x.mark(spring, 0);
            for (int n = 0; n <= 9; n++) {
                due("rows(" + n + ", 0) of two at " + spring, x.rows(n, 0), n < spring ? n + 1 : 0);
                due("ends(" + n + ", 0) of two at " + spring, x.ends(n, 0), n == 0 ? 1 : n < spring ? 3 : 0);
            }
        }
    }

    private static void whetherShutOrNot() {
        says("(whether SHUT or not)");
        FurnitureByFlood x = Told.town("H01H01H01S015S024");
        due("rows(1, 0)", x.rows(1, 0), 3);
        x.shut(0, true);
        x.shut(1, true);
        due("rows(1, 0) of shut ones", x.rows(1, 0), 3);
        due("ends(1, 0) of shut ones", x.ends(1, 0), 7);
    }

    private static void twoSlots() {
        says("SLOTS 0 .. 1");
        FurnitureByFlood x = Told.town("H01P0110");
        due("keep(-1)", x.keep(-1), UNKNOWN);
        due("keep(2)", x.keep(2), UNKNOWN);
        due("again(-1)", x.again(-1), UNKNOWN);
        due("again(2)", x.again(2), UNKNOWN);
        due("again(0) of none", x.again(0), LATE);
        due("again(1) of none", x.again(1), LATE);
        due("keep(0)", x.keep(0), 0);
        due("again(1) still", x.again(1), LATE);
        x.spring();
        due("keep(1)", x.keep(1), 1);
        due("again(0)", x.again(0), 0);
        due("again(1)", x.again(1), 1);
    }

    private static void whatIsKept() {
        says("keep where PIECES are, TIES, OWNERS, how many SPRINGS, what is SHUT");
        FurnitureByFlood x = Told.town("H09H09H09S015S125P0114");
        x.carry(0, 1);
        x.spring();
        x.tie(0, 7);
        x.shut(1, true);
        due("keep(1)", x.keep(1), 1);
        x.carry(0, 2);
        x.spring();
        x.tie(0, 0);
        x.shut(1, false);
        x.shut(0, true);
        due("again(1)", x.again(1), 1);
        due("where PIECES are", x.piece(0, 0), 1);
        due("TIES", x.piece(0, 3), 7);
        due("OWNERS: piece(0, 5)", x.piece(0, 5), 1);
        due("OWNERS: owner(0, 1)", x.owner(0, 1), 1);
        due("OWNERS: owner(0, 2)", x.owner(0, 2), NONE);
        due("how many SPRINGS", x.about(3), 1);
        due("what is SHUT", x.stream(1, 3), 1);
        due("what is not SHUT", x.stream(0, 3), 0);
        otherOwnersInEachSlot();
        says("(ACTS are none when one goes on)");
        x.spring();
        x.spring();
        due("about(4)", x.about(4), 2);
        due("again(1)", x.again(1), 1);
        due("about(4) when one goes on", x.about(4), 0);
        due("undo() when one goes on", x.undo(), LATE);
    }

    private static void otherOwnersInEachSlot() {
        FurnitureByFlood x = Told.town("H09H09H09P0110");
        for (int slot = 0; slot < 2; slot++) {
            x.carry(0, slot + 1);
            x.spring();
            x.keep(slot);
            x.undo();
        }
        for (int slot = 0; slot < 2; slot++) {
            due("again(" + slot + ")", x.again(slot), 1);
            due("OWNERS there: owner(0, 1)", x.owner(0, 1), slot + 1);
            due("OWNERS there: piece(0, 5)", x.piece(0, 5), slot + 1);
            due("where it is there", x.piece(0, 0), slot + 1);
        }
    }

    private static void noneIsLess() {
        says("UNKNOWN -1 (there is no such HOUSE, PIECE, STREAM, SLOT), BAD -2, LATE -3, FULL -4");
        due("UNKNOWN", FurnitureByFlood.UNKNOWN, -1);
        due("BAD", FurnitureByFlood.BAD, -2);
        due("LATE", FurnitureByFlood.LATE, -3);
        due("FULL", FurnitureByFlood.FULL, -4);
        says("NONE is -9");
        due("NONE", FurnitureByFlood.NONE, -9);
    }
}
