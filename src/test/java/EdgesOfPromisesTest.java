/** The edges that the promises themselves name: the least, the most, nothing, all; refusals are in RefusalsTest. */
public final class EdgesOfPromisesTest {
    private static final int UNKNOWN = -1, LATE = -3, FULL = -4, NONE = -9;
    private static final String SIX_HOUSES = "H09H09H09H09H09H09";
    private static final String TEN_STREAMS = "S011S021S031S041S051S101S121S131S141S151";
    private static final String SIX_WIDE_ONES = "P0910P0910P0910P0910P0910P0910";
    private static final String SIX_NARROW_ONES = "P0110P0110P0110P0110P0110P0110";

    private static String promise = "";

    public static void main(String[] args) {
        twoObjects();
        writeLowestHighestFirst();
        writeFull();
        wipeOfAnyLength();
        faultIsOnlyTold();
        townClauseByClause();
        townOfFewer();
        aboutLeastAndMost();
        houseLeastAndMost();
        streamShutOrNot();
        pieceLeastAndMost();
        ownerFirstAndEighth();
        tieLeastAndMost();
        carryNowhere();
        shutTwice();
        hourOfNoneAndAll();
        jamsOfNoneAndAll();
        springOfNoneToAll();
        undoToNone();
        afterLeastAndMost();
        tiesOfNoneAndAll();
        chancesOfNoneAndAll();
        markToEight();
        unmarkOfAny();
        rowsMost();
        keepAnew();
        againAndAgain();
        fiveHundredTwelveCalls();
        Check.end();
    }

    private static void says(String words) {
        promise = words;
    }

    private static void due(String call, long got, long want) {
        Check.due(promise + ": " + call, got, want);
    }

    // ---- promises 1 to 6

    private static void twoObjects() {
        says("1 Nothing");
        FurnitureByFlood x = Told.town("H09H09S019P0110");
        x.mark(1, 1);
        x.hour(1);
        x.keep(0);
        FurnitureByFlood y = new FurnitureByFlood();
        for (int what = 0; what <= 8; what++) {
            due("about(" + what + ") behind another object", y.about(what), 0);
        }
        due("fault() behind another object", y.fault(), NONE);
        due("undo() behind another object", y.undo(), LATE);
        due("again(0) behind another object", y.again(0), LATE);
        due("town() of the other object's text", y.town(), 0);
        due("about(0) of the first one", x.about(0), 2);
    }

    private static void writeLowestHighestFirst() {
        says("2 n bytes (1 .. 8) of v, the lowest n, the highest of these first");
        String text = "H12H34H56";
        for (int n = 1; n <= 8; n++) {
            for (long above : new long[] {0, -1, 0x4848484848484848L, Long.MIN_VALUE}) {
                long v = n == 8 ? 0 : above << 8 * n;
                for (int i = 0; i < n; i++) {
                    v |= (long) text.charAt(9 - n + i) << 8 * (n - 1 - i);
                }
                FurnitureByFlood x = Told.text(text.substring(0, 9 - n));
                due("write(" + n + ", " + v + ")", x.write(n, v), 9);
                due("fault() behind " + n + " bytes", x.fault(), NONE);
                due("town() of " + n + " bytes", x.town(), 3);
                for (int house = 0; house < 3; house++) {
                    due("house(" + house + ", 0)", x.house(house, 0), 2 * house + 1);
                    due("house(" + house + ", 1)", x.house(house, 1), 2 * house + 2);
                }
            }
        }
        FurnitureByFlood x = new FurnitureByFlood();
        due("write(8, -1): bytes of 255", x.write(8, -1), 8);
        due("fault()", x.fault(), 0);
    }

    private static void writeFull() {
        says("2 FULL: it would be longer than 96 (nothing comes)");
        for (int n = 1; n <= 8; n++) {
            FurnitureByFlood x = Told.text(" ".repeat(96 - n));
            if (n < 8) {
                due("write(" + (n + 1) + ", 0) to 97", x.write(n + 1, 0), FULL);
                due("about(8)", x.about(8), 96 - n);
            }
            due("write(" + n + ", 0) to 96", x.write(n, 0), 96);
            due("write(" + n + ", 0) beyond", x.write(n, 0), FULL);
            due("about(8)", x.about(8), 96);
        }
        FurnitureByFlood y = Told.text(" ".repeat(96));
        y.wipe();
        due("write(3) when it is wiped", y.write(3, 0x483132), 3);
        due("town() of that", y.town(), 1);
    }

    private static void wipeOfAnyLength() {
        says("3 THE TEXT is empty: how long it was");
        for (int length = 0; length <= 96; length++) {
            FurnitureByFlood x = Told.text("H".repeat(length));
            due("wipe() of " + length, x.wipe(), length);
            due("wipe() of none", x.wipe(), 0);
            due("fault() of none", x.fault(), NONE);
        }
        FurnitureByFlood x = Told.town("H12");
        x.mark(1, 0);
        x.hour(0);
        x.wipe();
        due("the TOWN stays", x.house(0, 0), 1);
        due("MARKS stay", x.about(7), 1);
        due("ACTS stay", x.about(4), 1);
    }

    private static void faultIsOnlyTold() {
        says("4 FAULT; NONE");
        FurnitureByFlood x = Told.text("H12");
        due("fault() ahead of town()", x.fault(), NONE);
        due("no TOWN yet", x.about(0), 0);
        Told.rewrite(x, "P");
        due("fault() at the first byte", x.fault(), 0);
        Told.rewrite(x, "H12P0");
        due("fault() at its end", x.fault(), 5);
        Told.rewrite(x, "");
        due("fault() of nothing", x.fault(), NONE);
    }

    private static void townClauseByClause() {
        FurnitureByFlood x = Told.town("H09H09H09S019P0113");
        x.carry(0, 2);
        x.tie(0, 8);
        x.spring();
        x.hour(0);
        x.shut(0, true);
        x.keep(0);
        x.keep(1);
        x.mark(5, 2);
        says("5 how many HOUSES");
        due("town()", x.town(), 3);
        says("5 (THE TEXT itself stays");
        due("about(8)", x.about(8), 18);
        due("fault()", x.fault(), NONE);
        says("5 no ACTS");
        due("about(4)", x.about(4), 0);
        due("undo()", x.undo(), LATE);
        says("5 no SPRINGS");
        due("about(3)", x.about(3), 0);
        says("5 nothing is SHUT");
        due("stream(0, 3)", x.stream(0, 3), 0);
        says("5 what was kept is gone");
        due("again(0)", x.again(0), LATE);
        due("again(1)", x.again(1), LATE);
        says("5 MARKS stay");
        due("about(7)", x.about(7), 1);
        due("ends(5, 0)", x.ends(5, 0), 0);
        due("ends(5, 2)", x.ends(5, 2), 4);
        says("5 THE TEXT is THE TOWN");
        due("piece(0, 0)", x.piece(0, 0), 0);
        due("piece(0, 3)", x.piece(0, 3), 3);
        due("piece(0, 5)", x.piece(0, 5), 0);
        due("owner(0, 1)", x.owner(0, 1), NONE);
        x.write(3, 0x483132);
        due("about(0) ahead of town()", x.about(0), 3);
        due("town() of one more", x.town(), 4);
        due("house(3, 1)", x.house(3, 1), 2);
    }

    private static void townOfFewer() {
        says("5 THE TEXT is THE TOWN");
        FurnitureByFlood x = Told.town(SIX_HOUSES + TEN_STREAMS + SIX_NARROW_ONES);
        for (int house = 0; house < 6; house++) {
            x.mark(2, house);
        }
        x.wipe();
        due("town() of nothing", x.town(), 0);
        for (int what = 0; what <= 6; what++) {
            due("about(" + what + ") of nothing", x.about(what), 0);
        }
        due("about(7): MARKS stay", x.about(7), 6);
        due("house(0, 0)", x.house(0, 0), UNKNOWN);
        due("hour(19)", x.hour(19), 0);
        due("spring()", x.spring(), 0);
        due("jams(19)", x.jams(19), 0);
        due("ties(0, 19, 9, true)", x.ties(0, 19, 9, true), 0);
        due("unmark()", x.unmark(), 6);
    }

    private static void aboutLeastAndMost() {
        says("6");
        FurnitureByFlood x = Told.town(SIX_HOUSES + TEN_STREAMS + SIX_NARROW_ONES);
        due("HOUSES, the most", x.about(0), 6);
        due("STREAMS, the most", x.about(1), 10);
        due("PIECES, the most", x.about(2), 6);
        due("not at HOME, the least", x.about(5), 0);
        for (int piece = 0; piece < 6; piece++) {
            x.carry(piece, 5 - piece % 2);
            due("not at HOME", x.about(5), piece + 1);
            due("OWNER is not HOME, ahead of a SPRING", x.about(6), 0);
        }
        for (int spring = 1; spring <= 40; spring++) {
            x.spring();
            due("SPRINGS that are over", x.about(3), spring);
            due("ACTS", x.about(4), Math.min(12, spring));
        }
        due("OWNER is not HOME, the most", x.about(6), 6);
        for (int piece = 0; piece < 6; piece++) {
            x.carry(piece, 0);
            due("not at HOME", x.about(5), 5 - piece);
        }
        due("OWNER is not HOME, ahead of a SPRING", x.about(6), 6);
        x.spring();
        due("OWNER is not HOME, the least", x.about(6), 0);
        for (int mark = 1; mark <= 8; mark++) {
            x.mark(mark, 0);
            due("MARKS", x.about(7), mark);
        }
        x.write(8, 0);
        due("bytes of THE TEXT, the most", x.about(8), 96);
    }

    // ---- promises 7 to 13

    private static void houseLeastAndMost() {
        says("7");
        FurnitureByFlood x = Told.town("H09H91" + SIX_WIDE_ONES);
        due("height, the least", x.house(0, 0), 0);
        due("height, the most", x.house(1, 0), 9);
        due("DOOR, the most", x.house(0, 1), 9);
        due("DOOR, the least", x.house(1, 1), 1);
        due("all PIECES", x.house(0, 2), 63);
        due("their width together", x.house(0, 3), 54);
        due("no PIECES", x.house(1, 2), 0);
        due("no width", x.house(1, 3), 0);
        for (int piece = 5; piece >= 0; piece--) {
            x.carry(piece, 1);
            due("PIECES one by one", x.house(0, 2), (1 << piece) - 1);
            due("width one by one", x.house(1, 3), 9 * (6 - piece));
        }
    }

    private static void streamShutOrNot() {
        says("8 1 if it is SHUT");
        FurnitureByFlood x = Told.town(SIX_HOUSES + TEN_STREAMS);
        for (int stream = 0; stream < 10; stream++) {
            x.shut(stream, true);
            for (int other = 0; other < 10; other++) {
                due("stream(" + other + ", 3) when " + stream + " is", x.stream(other, 3), other == stream ? 1 : 0);
            }
            x.shut(stream, false);
        }
    }

    private static void pieceLeastAndMost() {
        says("9");
        FurnitureByFlood x = Told.town("H01H01H01H01H01H01P0110P5999");
        for (int what = 0; what <= 5; what++) {
            due("the least, " + what, x.piece(0, what), what == 1 || what == 2 ? 1 : 0);
            due("the most, " + what, x.piece(1, what), what >= 1 && what <= 3 ? 9 : 5);
        }
    }

    private static void ownerFirstAndEighth() {
        says("10 The i-th of its OWNERS (from 0: its HOME); NONE: there is none such");
        FurnitureByFlood x = Told.town("H01H01P1110");
        due("owner(0, 0)", x.owner(0, 0), 1);
        for (int spring = 1; spring <= 7; spring++) {
            due("owner ahead of it", x.owner(0, spring), NONE);
            x.carry(0, 1 - spring % 2);
            x.spring();
            due("owner(0, " + spring + ")", x.owner(0, spring), 1 - spring % 2);
        }
        due("owner(0, 8)", x.owner(0, 8), NONE);
        due("owner(0, -1)", x.owner(0, -1), NONE);
        due("owner(0, 0) still", x.owner(0, 0), 1);
    }

    private static void tieLeastAndMost() {
        says("11 A TIE is otherwise: what it was");
        FurnitureByFlood x = Told.town("H09H09S019P0112P0112");
        int was = 2;
        for (int tie : new int[] {0, 9, 9, 1, 0, 0, 5}) {
            due("tie(0, " + tie + ")", x.tie(0, tie), was);
            due("piece(0, 3)", x.piece(0, 3), tie);
            was = tie;
        }
        due("of another PIECE", x.piece(1, 3), 2);
        x.tie(0, 0);
        due("0: it has none", x.after(0, 1, 1), 1);
    }

    private static void carryNowhere() {
        says("12 A PIECE is carried by hand: where it was");
        FurnitureByFlood x = Told.town("H91H01P0999");
        due("carry(0, 0): to where it is", x.carry(0, 0), 0);
        due("carry(0, 1): wider than both DOORS, dry, no STREAM", x.carry(0, 1), 0);
        due("carry(0, 1): to where it is", x.carry(0, 1), 1);
        due("piece(0, 0)", x.piece(0, 0), 1);
        due("its TIE stays", x.piece(0, 3), 9);
        due("its HOME stays", x.piece(0, 4), 0);
        due("its OWNER stays", x.piece(0, 5), 0);
    }

    private static void shutTwice() {
        says("13 1 if that is otherwise than it was, 0");
        FurnitureByFlood x = Told.town(SIX_HOUSES + TEN_STREAMS);
        for (int stream = 0; stream < 10; stream += 9) {
            due("open, opened", x.shut(stream, false), 0);
            due("open, shut", x.shut(stream, true), 1);
            due("shut, shut", x.shut(stream, true), 0);
            due("shut, opened", x.shut(stream, false), 1);
            due("opened, opened", x.shut(stream, false), 0);
        }
    }

    // ---- promises 15 to 19

    private static void hourOfNoneAndAll() {
        says("15 which PIECES went elsewhere, as bits");
        FurnitureByFlood x = Told.town("H09H09S019S109" + SIX_NARROW_ONES);
        due("hour(0): none", x.hour(0), 0);
        due("about(4): an ACT all the same", x.about(4), 1);
        due("hour(1): all", x.hour(1), 63);
        due("hour(19): all", x.hour(19), 63);
        due("about(4)", x.about(4), 3);
        due("hour(19) of no TOWN", new FurnitureByFlood().hour(19), 0);
        // one that goes round to where it was went elsewhere in each HOUR
        FurnitureByFlood y = Told.town("H09H09S019S109P0110");
        for (int i = 0; i < 4; i++) {
            due("hour(1) to and fro", y.hour(1), 1);
        }
        due("piece(0, 0)", y.piece(0, 0), 0);
    }

    private static void jamsOfNoneAndAll() {
        says("16 Which PIECES JAM, if an HOUR came at a LEVEL");
        FurnitureByFlood x = Told.town("H08H09S019" + SIX_WIDE_ONES);
        due("jams(0): none", x.jams(0), 0);
        due("jams(1): all", x.jams(1), 63);
        due("jams(19): all", x.jams(19), 63);
        x.tie(5, 1);
        due("jams(1): all but the tied one", x.jams(1), 31);
        due("jams(2): all", x.jams(2), 63);
        due("the tied one is so still", x.piece(5, 3), 1);
        x.shut(0, true);
        due("jams(19): no STREAM", x.jams(19), 0);
        due("about(4): no ACT", x.about(4), 0);
    }

    private static void springOfNoneToAll() {
        says("17 how many PIECES have another OWNER");
        for (int others = 0; others <= 6; others++) {
            FurnitureByFlood x = Told.town("H01H01" + SIX_NARROW_ONES);
            for (int piece = 0; piece < others; piece++) {
                x.carry(piece, 1);
            }
            due("spring() of " + others, x.spring(), others);
            due("spring() once more", x.spring(), 0);
            due("about(3)", x.about(3), 2);
            due("about(6)", x.about(6), others);
        }
    }

    private static void undoToNone() {
        says("18 The last ACT is undone: how many are left");
        FurnitureByFlood x = Told.town("H01P0110");
        due("undo() of none", x.undo(), LATE);
        for (int act = 1; act <= 13; act++) {
            x.spring();
        }
        for (int left = 11; left >= 0; left--) {
            due("undo()", x.undo(), left);
            due("about(4)", x.about(4), left);
            due("about(3)", x.about(3), left + 1);
        }
        due("undo() of none", x.undo(), LATE);
        due("about(3): the first SPRING can not be undone", x.about(3), 1);
        x.spring();
        due("undo() of a new one", x.undo(), 0);
        due("undo() of none", x.undo(), LATE);
    }

    private static void afterLeastAndMost() {
        says("19 Where a PIECE is behind n HOURS at a LEVEL");
        FurnitureByFlood x = Told.town("H09H99S019S109P0110P1110");
        due("after(0, 0, 1)", x.after(0, 0, 1), 0);
        due("after(0, 0, 9)", x.after(0, 0, 9), 0);
        due("after(0, 1, 1)", x.after(0, 1, 1), 1);
        due("after(0, 9, 9): dry there", x.after(0, 9, 9), 1);
        due("after(0, 10, 9): to and fro", x.after(0, 10, 9), 1);
        due("after(0, 19, 8): to and fro", x.after(0, 19, 8), 0);
        due("after(1, 9, 9)", x.after(1, 9, 9), 1);
        due("after(1, 19, 1)", x.after(1, 19, 1), 0);
        due("none went", x.about(5), 0);
    }

    // ---- promises 20 to 24

    private static void tiesOfNoneAndAll() {
        says("20 the cost (who = false), who is TIED, as bits; NONE");
        FurnitureByFlood x = Told.town("H09H09S019" + SIX_NARROW_ONES);
        for (int pieces = 0; pieces < 64; pieces++) {
            int count = Integer.bitCount(pieces);
            due("ties(" + pieces + ", 9, 1, false)", x.ties(pieces, 9, 1, false), 9 * count);
            due("ties(" + pieces + ", 9, 1, true)", x.ties(pieces, 9, 1, true), pieces);
        }
        due("ties(63, 0, 9, false)", x.ties(63, 0, 9, false), 0);
        due("ties(63, 0, 9, true)", x.ties(63, 0, 9, true), 0);
        due("ties(32, 10, 1, false)", x.ties(32, 10, 1, false), NONE);
        due("ties(32, 19, 9, true)", x.ties(32, 19, 9, true), NONE);
        due("ties(0, 19, 9, false)", x.ties(0, 19, 9, false), 0);
        due("ties(0, 19, 9, true)", x.ties(0, 19, 9, true), 0);
        due("none is TIED by that", x.piece(0, 3), 0);
    }

    private static void chancesOfNoneAndAll() {
        says("23 DRAWN");
        FurnitureByFlood x = Told.town("H09H09H09S015P0110");
        due("0, above", x.drawn(0, 0, 9, 1, true), 0);
        due("0, below", x.drawn(0, 0, 9, 1, false), 1);
        due("1, above", x.drawn(0, 0, 9, 0, true), 1);
        due("1, below", x.drawn(0, 0, 9, 0, false), 1);
        due("0 of a house to which no STREAM leads, above", x.drawn(0, 19, 9, 2, true), 0);
        due("0 of a house to which no STREAM leads, below", x.drawn(0, 19, 9, 2, false), 1);
        due("1/2, above", x.drawn(0, 19, 1, 1, true), 1);
        due("1/2, below", x.drawn(0, 1, 1, 1, false), 2);
        says("24 GOES FROM; NONE");
        FurnitureByFlood y = Told.town("H09H99S019S109P0110P1999");
        due("the least", y.goesFrom(0), 1);
        due("the most", y.goesFrom(1), 19);
        y.shut(1, true);
        due("none", y.goesFrom(1), NONE);
        due("the other STREAM is not SHUT", y.goesFrom(0), 1);
    }

    // ---- promises 25 to 30

    private static void markToEight() {
        says("25 MARKS: how many there are");
        FurnitureByFlood x = Told.town(SIX_HOUSES);
        for (int i = 1; i <= 8; i++) {
            due("mark(" + (10 - i) + ", " + i % 6 + ")", x.mark(10 - i, i % 6), i);
        }
        due("mark(1, 0)", x.mark(1, 0), FULL);
        due("rows(1, 0): the ninth did not come", x.rows(1, 3), 1);
        due("rows(2, 2): the eighth did", x.rows(2, 2), 1);
        due("rows(2, 3): the eighth did", x.rows(2, 3), 0);
    }

    private static void unmarkOfAny() {
        says("26 There are no MARKS: how many there were");
        FurnitureByFlood x = Told.town(SIX_HOUSES);
        for (int marks = 0; marks <= 8; marks++) {
            for (int i = 0; i < marks; i++) {
                x.mark(1, i % 6);
            }
            due("unmark() of " + marks, x.unmark(), marks);
            due("about(7)", x.about(7), 0);
            due("rows(9, 0)", x.rows(9, 0), 1);
        }
    }

    private static void rowsMost() {
        says("27 ROWS: how many");
        // 0, 1, 2 lead to each other, and each of 0, 1 to two more besides
        FurnitureByFlood x = Told.town("H01H01H01H01S011S021S031S101S121S131S201S211S231S301");
        long[] ends = {1, 0, 0, 0};
        for (int n = 0; n <= 9; n++) {
            due("rows(" + n + ", 0)", x.rows(n, 0), ends[0] + ends[1] + ends[2] + ends[3]);
            long three = ends[0] + ends[1] + ends[2];
            ends = new long[] {three + ends[3], three, three, three + ends[3]};
        }
        says("28 At which HOUSES they may end, as bits");
        FurnitureByFlood y = Told.town(SIX_HOUSES + "S011S021S031S041S051");
        due("ends(0, 5)", y.ends(0, 5), 32);
        due("ends(1, 0): all", y.ends(1, 0), 63);
        due("ends(9, 5): itself", y.ends(9, 5), 32);
        y.mark(1, 5);
        due("ends(1, 0) of a MARK", y.ends(1, 0), 32);
        y.mark(1, 4);
        due("ends(1, 0) of two that can not be: none", y.ends(1, 0), 0);
        due("rows(1, 0) of two that can not be: none", y.rows(1, 0), 0);
        due("ends(0, 0) ahead of them", y.ends(0, 0), 1);
    }

    private static void keepAnew() {
        says("29 They are kept: SPRINGS that are over");
        FurnitureByFlood x = Told.town("H01H01P0110");
        for (int springs = 0; springs <= 30; springs++) {
            due("keep(" + springs % 2 + ")", x.keep(springs % 2), springs);
            due("about(4): ACTS stay", x.about(4), Math.min(12, springs));
            x.spring();
        }
        due("again(0): the last one that was kept", x.again(0), 30);
        due("again(1): the last one that was kept", x.again(1), 29);
    }

    private static void againAndAgain() {
        says("30 They are as they were kept: SPRINGS that are over");
        FurnitureByFlood x = Told.town("H09H09S019P0114");
        due("again(0)", x.again(0), LATE);
        x.keep(0);
        for (int i = 0; i < 3; i++) {
            x.hour(5);
            x.spring();
            x.shut(0, true);
            due("piece(0, 0) ahead of it", x.piece(0, 0), 1);
            due("again(0)", x.again(0), 0);
            due("piece(0, 0)", x.piece(0, 0), 0);
            due("piece(0, 3)", x.piece(0, 3), 4);
            due("owner(0, 1)", x.owner(0, 1), NONE);
            due("stream(0, 3)", x.stream(0, 3), 0);
            due("undo()", x.undo(), LATE);
        }
        due("again(1): none were kept", x.again(1), LATE);
        x.town();
        due("again(0): none are kept any more", x.again(0), LATE);
    }

    private static void fiveHundredTwelveCalls() {
        says("An object is used for at most 512 calls after it has been made");
        FurnitureByFlood x = new FurnitureByFlood();
        x.write(6, 0x483039483039L);
        x.write(8, 0x5330313953313039L);
        x.write(5, 0x5030313130L);
        due("call 4: town()", x.town(), 2);
        for (int call = 5; call <= 500; call += 2) {
            due("call " + call + ": hour(1)", x.hour(1), 1);
            due("call " + (call + 1) + ": spring()", x.spring(), 1);
        }
        due("call 501: about(3)", x.about(3), 248);
        due("call 502: about(4)", x.about(4), 12);
        due("call 503: piece(0, 5)", x.piece(0, 5), 0);
        due("call 504: owner(0, 7)", x.owner(0, 7), 1);
        due("call 505: keep(1)", x.keep(1), 248);
        due("call 506: undo()", x.undo(), 11);
        due("call 507: undo()", x.undo(), 10);
        due("call 508: about(3)", x.about(3), 247);
        due("call 509: hour(1)", x.hour(1), 1);
        due("call 510: again(1)", x.again(1), 248);
        due("call 511: mark(9, 1)", x.mark(9, 1), 1);
        due("call 512: rows(9, 0)", x.rows(9, 0), 256);
    }
}
