/** Each promise of the document, by answers that were worked out by hand. */
public final class PromisesTest {
    private static final int UNKNOWN = -1, BAD = -2, LATE = -3, FULL = -4, NONE = -9;
    private static final int LEAST = Integer.MIN_VALUE, MOST = Integer.MAX_VALUE;

    public static void main(String[] args) {
        newObject();
        write();
        wipe();
        faultOfHouses();
        faultOfStreams();
        faultOfPieces();
        town();
        townAnew();
        about();
        house();
        stream();
        piece();
        owner();
        ownersBeyondEight();
        tie();
        carry();
        shut();
        deep();
        hourFloatsAndTies();
        hourStreams();
        hourDoors();
        hourRefused();
        jams();
        spring();
        undo();
        undoOfTwelve();
        after();
        ties();
        tiesOfLikeCosts();
        tiesThatCanNotBe();
        dowry();
        toShut();
        drawn();
        drawnLeastTerms();
        goesFrom();
        mark();
        unmark();
        rows();
        ends();
        keep();
        again();
        fullTown();
        fewerThanBefore();
        Check.end();
    }

    private static void due(String call, long got, long want) {
        Check.due(call, got, want);
    }

    // ---- promise 1

    private static void newObject() {
        due("UNKNOWN", FurnitureByFlood.UNKNOWN, -1);
        due("BAD", FurnitureByFlood.BAD, -2);
        due("LATE", FurnitureByFlood.LATE, -3);
        due("FULL", FurnitureByFlood.FULL, -4);
        due("NONE", FurnitureByFlood.NONE, -9);
        FurnitureByFlood x = new FurnitureByFlood();
        for (int what = 0; what <= 8; what++) {
            due("1 about(" + what + ")", x.about(what), 0);
        }
        due("1 fault()", x.fault(), NONE);
        due("1 house(0, 0)", x.house(0, 0), UNKNOWN);
        due("1 stream(0, 0)", x.stream(0, 0), UNKNOWN);
        due("1 piece(0, 0)", x.piece(0, 0), UNKNOWN);
        due("1 owner(0, 0)", x.owner(0, 0), UNKNOWN);
        due("1 tie(0, 0)", x.tie(0, 0), UNKNOWN);
        due("1 carry(0, 0)", x.carry(0, 0), UNKNOWN);
        due("1 shut(0, true)", x.shut(0, true), UNKNOWN);
        due("1 deep(0, 0)", x.deep(0, 0), UNKNOWN);
        due("1 jams(19)", x.jams(19), 0);
        due("1 after(0, 0, 1)", x.after(0, 0, 1), UNKNOWN);
        due("1 ties(0, 0, 1, false)", x.ties(0, 0, 1, false), 0);
        due("1 ties(0, 0, 1, true)", x.ties(0, 0, 1, true), 0);
        due("1 ties(1, 0, 1, true)", x.ties(1, 0, 1, true), BAD);
        due("1 dowry(0, 0, 1, 0)", x.dowry(0, 0, 1, 0), UNKNOWN);
        due("1 toShut(0, 0, 1)", x.toShut(0, 0, 1), UNKNOWN);
        due("1 drawn(0, 0, 1, 0, true)", x.drawn(0, 0, 1, 0, true), UNKNOWN);
        due("1 goesFrom(0)", x.goesFrom(0), UNKNOWN);
        due("1 mark(1, 0)", x.mark(1, 0), UNKNOWN);
        due("1 unmark()", x.unmark(), 0);
        due("1 rows(0, 0)", x.rows(0, 0), UNKNOWN);
        due("1 ends(0, 0)", x.ends(0, 0), UNKNOWN);
        due("1 undo()", x.undo(), LATE);
        due("1 again(0)", x.again(0), LATE);
        due("1 again(1)", x.again(1), LATE);
        due("1 keep(1)", x.keep(1), 0);
        due("1 again(1) of nothing", x.again(1), 0);
        due("1 again(0) still", x.again(0), LATE);
        due("1 hour(0)", x.hour(0), 0);
        due("1 spring()", x.spring(), 0);
        due("1 about(3)", x.about(3), 1);
        due("1 about(4)", x.about(4), 2);
        due("1 town()", x.town(), 0);
        due("1 about(3) of a town", x.about(3), 0);
        due("1 about(4) of a town", x.about(4), 0);
        due("1 again(1) of a town", x.again(1), LATE);
    }

    // ---- promise 2

    private static void write() {
        FurnitureByFlood x = new FurnitureByFlood();
        due("2 write(0, 72)", x.write(0, 72), BAD);
        due("2 write(9, 72)", x.write(9, 72), BAD);
        due("2 write(-1, 72)", x.write(-1, 72), BAD);
        due("2 write(LEAST, 72)", x.write(LEAST, 72), BAD);
        due("2 write(MOST, 72)", x.write(MOST, 72), BAD);
        due("2 about(8) of refused ones", x.about(8), 0);
        due("2 write(3) with more above", x.write(3, 0x5050505050483132L), 3);
        due("2 town()", x.town(), 1);
        due("2 the highest first", x.house(0, 0) * 10 + x.house(0, 1), 12);
        due("2 write(8)", x.write(8, 0x4834354836374838L), 11);
        due("2 fault()", x.fault(), 11);
        due("2 write(1)", x.write(1, 0x39L), 12);
        due("2 town() of both", x.town(), 4);
        due("2 house 1", x.house(1, 0) * 10 + x.house(1, 1), 45);
        due("2 house 2", x.house(2, 0) * 10 + x.house(2, 1), 67);
        due("2 house 3", x.house(3, 0) * 10 + x.house(3, 1), 89);
        x.wipe();
        due("2 write(8) of a number below 0", x.write(8, 0xC831324831324831L), 8);
        due("2 a byte is more than seven bits", x.fault(), 0);
        x.wipe();
        x.write(2, 0x483FL);
        due("2 a byte that is no digit", x.fault(), 1);
        x.wipe();
        x.write(1, 0x148L);
        due("2 a byte is no more than eight bits", x.fault(), 1);
        x.wipe();
        x.write(3, 0x4831B2L);
        due("2 a digit with the highest bit", x.fault(), 2);
        writeFull();
    }

    private static void writeFull() {
        FurnitureByFlood x = new FurnitureByFlood();
        for (int i = 1; i <= 11; i++) {
            due("2 write(8) time " + i, x.write(8, -1L), 8 * i);
        }
        due("2 write(1) to 89", x.write(1, 0), 89);
        due("2 write(8) to 97", x.write(8, 0), FULL);
        due("2 nothing comes", x.about(8), 89);
        due("2 write(7) to 96", x.write(7, 0), 96);
        due("2 write(1) to 97", x.write(1, 72), FULL);
        due("2 write(8) beyond", x.write(8, 72), FULL);
        due("2 BAD ahead of FULL", x.write(9, 72), BAD);
        due("2 BAD ahead of FULL, 0", x.write(0, 72), BAD);
        due("2 about(8)", x.about(8), 96);
        due("2 wipe()", x.wipe(), 96);
        due("2 write(3) after wipe()", x.write(3, 0x483132L), 3);
        due("2 town() after wipe()", x.town(), 1);
    }

    // ---- promise 3

    private static void wipe() {
        FurnitureByFlood x = Told.town("H12H34");
        due("3 wipe()", x.wipe(), 6);
        due("3 wipe() of nothing", x.wipe(), 0);
        due("3 about(8)", x.about(8), 0);
        due("3 the town stays", x.about(0), 2);
        due("3 its house stays", x.house(1, 1), 4);
        due("3 fault()", x.fault(), NONE);
        x.write(1, 72);
        due("3 fault() of one byte", x.fault(), 1);
        due("3 wipe() of one byte", x.wipe(), 1);
    }

    // ---- promise 4

    private static void fault(String text, int want) {
        due("4 fault() of " + text, Told.text(text).fault(), want);
    }

    private static void faultOfHouses() {
        fault("", NONE);
        fault("H", 1);
        fault("H1", 2);
        fault("H12", NONE);
        fault("H01", NONE);
        fault("H99", NONE);
        fault("H10", 2);
        fault("H1x", 2);
        fault("H/1", 1);
        fault("H:1", 1);
        fault("H1/", 2);
        fault("H1:", 2);
        fault("HH", 1);
        fault("X", 0);
        fault("h12", 0);
        fault("G12", 0);
        fault("I12", 0);
        fault("0", 0);
        fault(" H12", 0);
        fault("H12 ", 3);
        fault("H12\n", 3);
        fault("H121", 3);
        fault("H12H", 4);
        fault("H12H1", 5);
        fault("H12H10H12", 5);
        fault("H11H11H11H11H11H11", NONE);
        fault("H11H11H11H11H11H11H", 18);
        fault("H11H11H11H11H11H11H11", 18);
        FurnitureByFlood x = Told.town("H12H34");
        Told.rewrite(x, "H56X");
        due("4 fault()", x.fault(), 3);
        due("4 fault() once more", x.fault(), 3);
        due("4 fault() changes no town", x.about(0) * 100 + x.house(0, 0) * 10 + x.house(0, 1), 212);
    }

    private static void faultOfStreams() {
        fault("S", 0);
        fault("H11S", 3);
        fault("H11H11S", 7);
        fault("H11H11S0", 8);
        fault("H11H11S01", 9);
        fault("H11H11S011", NONE);
        fault("H11H11S019", NONE);
        fault("H11H11S109", NONE);
        fault("H11H11S010", 9);
        fault("H11H11S01/", 9);
        fault("H11H11S01:", 9);
        fault("H11H11S01S", 9);
        fault("H11H11S2", 7);
        fault("H11H11S/", 7);
        fault("H11H11S:", 7);
        fault("H11H11S00", 8);
        fault("H11H11S02", 8);
        fault("H11H11S0/", 8);
        fault("H11H11S0:", 8);
        fault("H11S01", 3);
        fault("H11H11S015S", 11);
        fault("H11H11S015S0", 11);
        fault("H11H11S015S1", 12);
        fault("H11H11S015S105", NONE);
        fault("H11H11S105S", 11);
        fault("H11H11S105S1", 11);
        fault("H11H11S105S0", 12);
        fault("H11H11S015S105S", 14);
        fault("H11H11S015S105H11S", 18);
        fault("H11H11H11S011S01", 15);
        fault("H11H11H11S011S021", NONE);
        fault("H11H11H11S015S016", 15);
        fault("H11H11H11S019S021", NONE);
        fault("H11H11H11S019S022", 16);
        fault("H11H11H11S015S025", NONE);
        fault("H11H11H11S015S026", 16);
        fault("H11H11H11S019S219", NONE);
        // from house 0 there are ten tenths, but not every pair
        fault("H11H11H11H11S019S021S0", 21);
        fault("H11H11H11H11S019S021S1", 22);
        fault("H11H11H11H11S019S021S103", NONE);
        fault("H11H11H11H11S018S021S031", NONE);
        fault("H11H11H11H11S018S021S032", 23);
        // ten tenths from each of four houses, with pairs left
        String ten = "H11H11H11H11S019S021S109S121S209S211S309";
        fault(ten, NONE);
        fault(ten + "S", 41);
        fault(ten + "S311", NONE);
        fault(ten + "S311S", 44);
        fault(ten + "S311H11S", 48);
        fault(ten + "S311H11S0", 48);
        fault(ten + "S311H11S4", 49);
        // ten streams at most
        String eleven = "H11H11H11H11S011S021S031S101S121S131S201S211S231S301";
        fault(eleven, NONE);
        fault(eleven + "S", 52);
        fault(eleven + "H11", NONE);
    }

    private static void faultOfPieces() {
        fault("P", 0);
        fault("H11P", 4);
        fault("H11P0", 5);
        fault("H11P01", 6);
        fault("H11P011", 7);
        fault("H11P0110", NONE);
        fault("H11P0999", NONE);
        fault("H11P1", 4);
        fault("H11P/", 4);
        fault("H11P:", 4);
        fault("H11P00", 5);
        fault("H11P0/", 5);
        fault("H11P0:", 5);
        fault("H11P010", 6);
        fault("H11P01/", 6);
        fault("H11P01:", 6);
        fault("H11P011/", 7);
        fault("H11P011:", 7);
        fault("H11P0110P", 9);
        fault("H11P0110H11P1110", NONE);
        fault("H11P1110H11", 4);
        String six = "H11P0111P0111P0111P0111P0111P0111";
        fault(six, NONE);
        fault(six + "P", 33);
        fault(six + "Q", 33);
        fault(six + "H", 34);
        fault(six + "H11", NONE);
        // the most that can be told, and one byte more of each kind
        String most = "H11H11H11H11H11H11" + "S011S021S031S041S051S101S121S131S141S151"
            + "P0111P0111P0111P0111P0111P0111";
        fault(most, NONE);
        fault(most + "H", 88);
        fault(most + "S", 88);
        fault(most + "P", 88);
    }

    // ---- promise 5

    private static void town() {
        FurnitureByFlood x = Told.text("H12H34S015P0123P1456");
        due("5 town()", x.town(), 2);
        due("5 streams", x.about(1), 1);
        due("5 pieces", x.about(2), 2);
        due("5 THE TEXT itself stays", x.about(8), 20);
        due("5 town() once more", x.town(), 2);
        x.hour(9);
        x.spring();
        x.keep(1);
        x.shut(0, true);
        Told.write(x, "H");
        due("5 town() of a text not at its end", x.town(), LATE);
        Told.write(x, "x");
        due("5 town() of a fault", x.town(), LATE);
        due("5 LATE changes nothing: houses", x.about(0), 2);
        due("5 LATE changes nothing: springs", x.about(3), 1);
        due("5 LATE changes nothing: acts", x.about(4), 2);
        due("5 LATE changes nothing: text", x.about(8), 22);
        due("5 LATE changes nothing: shut", x.stream(0, 3), 1);
        due("5 LATE changes nothing: kept", x.again(1), 1);
        x.wipe();
        due("5 town() of nothing", x.town(), 0);
        due("5 no houses", x.house(0, 0), UNKNOWN);
        due("5 no pieces", x.about(2), 0);
        due("5 no streams", x.about(1), 0);
    }

    private static void townAnew() {
        FurnitureByFlood x = Told.town("H09H09H09S015P0127");
        x.keep(0);
        x.keep(1);
        x.tie(0, 3);
        x.shut(0, true);
        x.carry(0, 2);
        x.spring();
        x.hour(0);
        x.mark(3, 2);
        x.mark(4, 1);
        due("5 town() anew", x.town(), 3);
        due("5 no springs", x.about(3), 0);
        due("5 no acts", x.about(4), 0);
        due("5 no act to undo", x.undo(), LATE);
        due("5 at home", x.piece(0, 0), 0);
        due("5 tied as told", x.piece(0, 3), 7);
        due("5 owned by home", x.piece(0, 5), 0);
        due("5 the first owner", x.owner(0, 0), 0);
        due("5 one owner", x.owner(0, 1), NONE);
        due("5 nothing is shut", x.stream(0, 3), 0);
        due("5 slot 0 is gone", x.again(0), LATE);
        due("5 slot 1 is gone", x.again(1), LATE);
        due("5 MARKS stay", x.about(7), 2);
        due("5 MARKS hold", x.ends(3, 0), 0);
        due("5 nor are all others", x.ends(2, 0), 3);
        Told.rewrite(x, "H00");
        due("5 town() refused", x.town(), LATE);
        Told.rewrite(x, "H01");
        due("5 town() of one house", x.town(), 1);
        due("5 a MARK of a house that is gone", x.rows(3, 0), 0);
        due("5 rows ahead of it", x.rows(2, 0), 1);
        due("5 MARKS stay still", x.about(7), 2);
    }

    // ---- promise 6

    private static void about() {
        FurnitureByFlood x = Told.town("H11H22H33S015S126P0110P1110P2110P0110");
        due("6 about(0)", x.about(0), 3);
        due("6 about(1)", x.about(1), 2);
        due("6 about(2)", x.about(2), 4);
        due("6 about(3)", x.about(3), 0);
        due("6 about(4)", x.about(4), 0);
        due("6 about(5)", x.about(5), 0);
        due("6 about(6)", x.about(6), 0);
        due("6 about(7)", x.about(7), 0);
        due("6 about(8)", x.about(8), 37);
        x.carry(0, 1);
        x.carry(2, 1);
        x.carry(3, 1);
        due("6 about(5) when three are carried", x.about(5), 3);
        due("6 about(6) ahead of a spring", x.about(6), 0);
        due("6 about(4) when none was an act", x.about(4), 0);
        x.spring();
        due("6 about(6) behind a spring", x.about(6), 3);
        due("6 about(3) behind a spring", x.about(3), 1);
        due("6 about(4) behind a spring", x.about(4), 1);
        x.carry(0, 0);
        due("6 about(5) when one is back", x.about(5), 2);
        due("6 about(6) when one is back", x.about(6), 3);
        x.spring();
        due("6 about(6) a spring later", x.about(6), 2);
        x.hour(0);
        due("6 about(3) of an hour", x.about(3), 2);
        due("6 about(4) of an hour", x.about(4), 3);
        x.mark(1, 1);
        due("6 about(7) of a mark", x.about(7), 1);
        due("6 about(9)", x.about(9), BAD);
        due("6 about(-1)", x.about(-1), BAD);
        due("6 about(LEAST)", x.about(LEAST), BAD);
        due("6 about(MOST)", x.about(MOST), BAD);
    }

    // ---- promise 7

    private static void house() {
        FurnitureByFlood x = Told.town("H02H91P0310P1510P0910P1110P0210P0410");
        due("7 house(0, 0)", x.house(0, 0), 0);
        due("7 house(0, 1)", x.house(0, 1), 2);
        due("7 house(1, 0)", x.house(1, 0), 9);
        due("7 house(1, 1)", x.house(1, 1), 1);
        due("7 house(0, 2)", x.house(0, 2), 1 + 4 + 16 + 32);
        due("7 house(0, 3)", x.house(0, 3), 3 + 9 + 2 + 4);
        due("7 house(1, 2)", x.house(1, 2), 2 + 8);
        due("7 house(1, 3)", x.house(1, 3), 6);
        x.carry(2, 1);
        due("7 house(0, 2) when one is carried", x.house(0, 2), 1 + 16 + 32);
        due("7 house(0, 3) when one is carried", x.house(0, 3), 9);
        due("7 house(1, 2) when one is carried", x.house(1, 2), 2 + 4 + 8);
        due("7 house(1, 3) when one is carried", x.house(1, 3), 15);
        due("7 house(2, 0)", x.house(2, 0), UNKNOWN);
        due("7 house(-1, 0)", x.house(-1, 0), UNKNOWN);
        due("7 house(6, 0)", x.house(6, 0), UNKNOWN);
        due("7 house(MOST, 0)", x.house(MOST, 0), UNKNOWN);
        due("7 house(LEAST, 0)", x.house(LEAST, 0), UNKNOWN);
        due("7 house(0, 4)", x.house(0, 4), BAD);
        due("7 house(0, -1)", x.house(0, -1), BAD);
        due("7 house(0, MOST)", x.house(0, MOST), BAD);
        due("7 UNKNOWN ahead of BAD", x.house(2, 4), UNKNOWN);
    }

    // ---- promise 8

    private static void stream() {
        FurnitureByFlood x = Told.town("H11H11H11S127S013S203");
        due("8 stream(0, 0)", x.stream(0, 0), 1);
        due("8 stream(0, 1)", x.stream(0, 1), 2);
        due("8 stream(0, 2)", x.stream(0, 2), 7);
        due("8 stream(0, 3)", x.stream(0, 3), 0);
        due("8 stream(1, 0)", x.stream(1, 0), 0);
        due("8 stream(1, 1)", x.stream(1, 1), 1);
        due("8 stream(1, 2)", x.stream(1, 2), 3);
        due("8 stream(2, 0)", x.stream(2, 0), 2);
        due("8 stream(2, 1)", x.stream(2, 1), 0);
        x.shut(1, true);
        due("8 stream(1, 3) when it is shut", x.stream(1, 3), 1);
        due("8 stream(0, 3) when another is shut", x.stream(0, 3), 0);
        due("8 stream(2, 3) when another is shut", x.stream(2, 3), 0);
        x.shut(1, false);
        due("8 stream(1, 3) when it is open", x.stream(1, 3), 0);
        due("8 stream(3, 0)", x.stream(3, 0), UNKNOWN);
        due("8 stream(-1, 0)", x.stream(-1, 0), UNKNOWN);
        due("8 stream(10, 0)", x.stream(10, 0), UNKNOWN);
        due("8 stream(MOST, 0)", x.stream(MOST, 0), UNKNOWN);
        due("8 stream(0, 4)", x.stream(0, 4), BAD);
        due("8 stream(0, -1)", x.stream(0, -1), BAD);
        due("8 UNKNOWN ahead of BAD", x.stream(3, 4), UNKNOWN);
    }

    // ---- promise 9

    private static void piece() {
        FurnitureByFlood x = Told.town("H11H11H11P1234P2560");
        due("9 piece(0, 0)", x.piece(0, 0), 1);
        due("9 piece(0, 1)", x.piece(0, 1), 2);
        due("9 piece(0, 2)", x.piece(0, 2), 3);
        due("9 piece(0, 3)", x.piece(0, 3), 4);
        due("9 piece(0, 4)", x.piece(0, 4), 1);
        due("9 piece(0, 5)", x.piece(0, 5), 1);
        due("9 piece(1, 0)", x.piece(1, 0), 2);
        due("9 piece(1, 1)", x.piece(1, 1), 5);
        due("9 piece(1, 2)", x.piece(1, 2), 6);
        due("9 piece(1, 3)", x.piece(1, 3), 0);
        due("9 piece(1, 4)", x.piece(1, 4), 2);
        due("9 piece(1, 5)", x.piece(1, 5), 2);
        x.carry(0, 0);
        due("9 its house when it is carried", x.piece(0, 0), 0);
        due("9 its home when it is carried", x.piece(0, 4), 1);
        due("9 its owner when it is carried", x.piece(0, 5), 1);
        x.spring();
        due("9 its owner behind a spring", x.piece(0, 5), 0);
        due("9 its home behind a spring", x.piece(0, 4), 1);
        due("9 piece(2, 0)", x.piece(2, 0), UNKNOWN);
        due("9 piece(-1, 0)", x.piece(-1, 0), UNKNOWN);
        due("9 piece(6, 0)", x.piece(6, 0), UNKNOWN);
        due("9 piece(LEAST, 0)", x.piece(LEAST, 0), UNKNOWN);
        due("9 piece(0, 6)", x.piece(0, 6), BAD);
        due("9 piece(0, -1)", x.piece(0, -1), BAD);
        due("9 UNKNOWN ahead of BAD", x.piece(2, 6), UNKNOWN);
    }

    // ---- promise 10

    private static void owner() {
        FurnitureByFlood x = Told.town("H11H11H11P1234P2560");
        due("10 owner(0, 0)", x.owner(0, 0), 1);
        due("10 owner(1, 0)", x.owner(1, 0), 2);
        due("10 owner(0, 1)", x.owner(0, 1), NONE);
        x.carry(0, 2);
        due("10 no owner ahead of a spring", x.owner(0, 1), NONE);
        x.spring();
        x.spring();
        due("10 owner(0, 1)", x.owner(0, 1), 2);
        due("10 of the same none more", x.owner(0, 2), NONE);
        due("10 of another piece none more", x.owner(1, 1), NONE);
        x.carry(0, 1);
        x.spring();
        due("10 home once more", x.owner(0, 2), 1);
        due("10 home first", x.owner(0, 0), 1);
        due("10 owner(0, -1)", x.owner(0, -1), NONE);
        due("10 owner(0, LEAST)", x.owner(0, LEAST), NONE);
        due("10 owner(0, MOST)", x.owner(0, MOST), NONE);
        due("10 owner(2, 0)", x.owner(2, 0), UNKNOWN);
        due("10 owner(-1, 0)", x.owner(-1, 0), UNKNOWN);
        due("10 owner(6, 99)", x.owner(6, 99), UNKNOWN);
    }

    private static void ownersBeyondEight() {
        FurnitureByFlood x = Told.town("H11H11H11P0110");
        for (int spring = 1; spring <= 9; spring++) {
            x.carry(0, spring % 3);
            due("10 spring " + spring, x.spring(), 1);
        }
        for (int i = 0; i < 8; i++) {
            due("10 owner(0, " + i + ") of ten", x.owner(0, i), i % 3);
        }
        due("10 owner(0, 8) is not told", x.owner(0, 8), NONE);
        due("10 owner(0, 9) is not told", x.owner(0, 9), NONE);
        due("10 the owner who is not told", x.piece(0, 5), 0);
        x.carry(0, 1);
        due("10 one more who is not told", x.spring(), 1);
        due("10 who it is", x.piece(0, 5), 1);
        due("10 spring() of the same", x.spring(), 0);
        due("10 undo()", x.undo(), 10);
        due("10 undo() of one who is not told", x.undo(), 9);
        due("10 who it was", x.piece(0, 5), 0);
        x.undo();
        x.undo();
        due("10 the eighth is told still", x.owner(0, 7), 1);
        x.undo();
        due("10 the eighth is undone", x.owner(0, 7), NONE);
        due("10 the seventh is told", x.owner(0, 6), 0);
        x.carry(0, 2);
        x.spring();
        due("10 another eighth", x.owner(0, 7), 2);
    }

    // ---- promise 11

    private static void tie() {
        FurnitureByFlood x = Told.town("H01H09S015P0914P0913");
        due("11 tie(0, 9)", x.tie(0, 9), 4);
        due("11 piece(0, 3)", x.piece(0, 3), 9);
        due("11 another one's stays", x.piece(1, 3), 3);
        due("11 tie(0, 0)", x.tie(0, 0), 9);
        due("11 tie(0, 0) once more", x.tie(0, 0), 0);
        due("11 it is no act", x.about(4), 0);
        due("11 tie(0, 10)", x.tie(0, 10), BAD);
        due("11 tie(0, -1)", x.tie(0, -1), BAD);
        due("11 tie(0, MOST)", x.tie(0, MOST), BAD);
        due("11 tie(0, LEAST)", x.tie(0, LEAST), BAD);
        due("11 BAD changes nothing", x.piece(0, 3), 0);
        due("11 tie(2, 5)", x.tie(2, 5), UNKNOWN);
        due("11 tie(-1, 5)", x.tie(-1, 5), UNKNOWN);
        due("11 UNKNOWN ahead of BAD", x.tie(2, 10), UNKNOWN);
        FurnitureByFlood y = Told.town("H09H09S015P0110");
        y.tie(0, 5);
        due("11 it holds", y.hour(5), 0);
        y.tie(0, 4);
        due("11 it does not hold", y.hour(5), 1);
    }

    // ---- promise 12

    private static void carry() {
        FurnitureByFlood x = Told.town("H11H11H11P1110P1115");
        due("12 carry(0, 2)", x.carry(0, 2), 1);
        due("12 where it is", x.piece(0, 0), 2);
        due("12 where another one is", x.piece(1, 0), 1);
        due("12 carry(0, 0)", x.carry(0, 0), 2);
        due("12 carry(0, 0) once more", x.carry(0, 0), 0);
        due("12 carry(1, 0)", x.carry(1, 0), 1);
        due("12 its tie is as it was", x.piece(1, 3), 5);
        due("12 its owner is as it was", x.owner(0, 1), NONE);
        due("12 it is no act", x.about(4), 0);
        due("12 carry(2, 0)", x.carry(2, 0), UNKNOWN);
        due("12 carry(-1, 0)", x.carry(-1, 0), UNKNOWN);
        due("12 carry(0, 3)", x.carry(0, 3), UNKNOWN);
        due("12 carry(0, -1)", x.carry(0, -1), UNKNOWN);
        due("12 carry(0, 6)", x.carry(0, 6), UNKNOWN);
        due("12 carry(2, 3)", x.carry(2, 3), UNKNOWN);
        due("12 UNKNOWN changes nothing", x.piece(0, 0), 0);
    }

    // ---- promise 13

    private static void shut() {
        FurnitureByFlood x = Told.town("H09H09H09S015S024P0110");
        due("13 shut(0, false)", x.shut(0, false), 0);
        due("13 shut(0, true)", x.shut(0, true), 1);
        due("13 shut(0, true) once more", x.shut(0, true), 0);
        due("13 it is shut", x.stream(0, 3), 1);
        due("13 the other one is not", x.stream(1, 3), 0);
        due("13 it is no act", x.about(4), 0);
        due("13 the other stream is the strongest now", x.after(0, 1, 1), 2);
        due("13 shut(1, true)", x.shut(1, true), 1);
        due("13 none is left", x.after(0, 1, 1), 0);
        due("13 shut(0, false)", x.shut(0, false), 1);
        due("13 the first one is open", x.after(0, 1, 1), 1);
        due("13 shut(2, true)", x.shut(2, true), UNKNOWN);
        due("13 shut(-1, false)", x.shut(-1, false), UNKNOWN);
        due("13 shut(10, true)", x.shut(10, true), UNKNOWN);
    }

    // ---- promise 14

    private static void deep() {
        FurnitureByFlood x = Told.town("H01H51H91");
        due("14 deep(0, 0)", x.deep(0, 0), 0);
        due("14 deep(0, 19)", x.deep(0, 19), 19);
        due("14 deep(1, 4)", x.deep(1, 4), 0);
        due("14 deep(1, 0)", x.deep(1, 0), 0);
        due("14 deep(1, 5)", x.deep(1, 5), 0);
        due("14 deep(1, 6)", x.deep(1, 6), 1);
        due("14 deep(2, 19)", x.deep(2, 19), 10);
        due("14 deep(0, 20)", x.deep(0, 20), BAD);
        due("14 deep(0, -1)", x.deep(0, -1), BAD);
        due("14 deep(0, LEAST)", x.deep(0, LEAST), BAD);
        due("14 deep(0, MOST)", x.deep(0, MOST), BAD);
        due("14 deep(3, 0)", x.deep(3, 0), UNKNOWN);
        due("14 deep(-1, 0)", x.deep(-1, 0), UNKNOWN);
        due("14 UNKNOWN ahead of BAD", x.deep(3, 20), UNKNOWN);
    }

    // ---- promise 15

    private static void hourFloatsAndTies() {
        FurnitureByFlood x = Told.town("H29H09S015P0150P0130P0136P0157P1150");
        due("15 hour(4): too low for all", x.hour(4), 0);
        due("15 hour(5): piece 1 floats, piece 2 is tied", x.hour(5), 2);
        due("15 where piece 1 is", x.piece(1, 0), 1);
        due("15 piece 2 is tied still", x.piece(2, 3), 6);
        due("15 hour(8): piece 0 goes", x.hour(8), 1);
        due("15 piece 2 holds to six", x.piece(2, 3), 6);
        due("15 hour(9): piece 2 breaks loose", x.hour(9), 4);
        due("15 piece 2 has no tie then", x.piece(2, 3), 0);
        due("15 piece 3 holds to seven", x.piece(3, 3), 7);
        due("15 hour(10): piece 3 breaks loose", x.hour(10), 8);
        due("15 piece 3 has no tie then", x.piece(3, 3), 0);
        due("15 hour(19): no stream from there", x.hour(19), 0);
        due("15 all are acts", x.about(4), 6);
        // a tie breaks only where its piece floats
        FurnitureByFlood y = Told.town("H09H09S015P0152P0112");
        due("15 the one that does not float stays tied", y.hour(4), 2);
        due("15 its tie", y.piece(0, 3), 2);
        due("15 it floats", y.hour(5), 1);
        due("15 its tie is broken", y.piece(0, 3), 0);
        // a tie breaks also where no stream leads on
        FurnitureByFlood z = Told.town("H09P0112");
        due("15 it stays", z.hour(3), 0);
        due("15 but its tie is broken", z.piece(0, 3), 0);
        due("15 undo()", z.undo(), 0);
        due("15 its tie is whole", z.piece(0, 3), 2);
    }

    private static void hourStreams() {
        FurnitureByFlood x = Told.town("H09H09H09H09S012S025S033P0110");
        due("15 hour(1)", x.hour(1), 1);
        due("15 by the strongest", x.piece(0, 0), 2);
        x.carry(0, 0);
        x.shut(1, true);
        x.hour(1);
        due("15 by the strongest that is not shut", x.piece(0, 0), 3);
        x.carry(0, 0);
        x.shut(2, true);
        x.hour(1);
        due("15 by the last one that is not shut", x.piece(0, 0), 1);
        x.carry(0, 0);
        x.shut(0, true);
        due("15 all are shut", x.hour(1), 0);
        due("15 it stays", x.piece(0, 0), 0);
        FurnitureByFlood y = Told.town("H09H09H09H09S031S024S014P0110");
        y.hour(1);
        due("15 of like ones the one told first", y.piece(0, 0), 2);
        // all are where they were as the hour began: one stream on, no more
        FurnitureByFlood z = Told.town("H09H09H09S019S129P0110P1110");
        due("15 each goes one stream on", z.hour(1), 3);
        due("15 piece 0", z.piece(0, 0), 1);
        due("15 piece 1", z.piece(1, 0), 2);
    }

    private static void hourDoors() {
        // door 5: 3 goes, 3 jams, 2 goes, 1 jams
        FurnitureByFlood x = Told.town("H05H09S019P0310P0310P0210P0110");
        due("15 jams ahead", x.jams(1), 2 + 8);
        due("15 the door where they were", x.hour(1), 1 + 4);
        due("15 another hour, another width", x.hour(1), 2 + 8);
        // the door of the other house
        FurnitureByFlood y = Told.town("H09H04S019P0310P0210P0110");
        due("15 the door of the other house", y.hour(1), 1 + 4);
        due("15 jams in the next hour", y.jams(1), 0);
        // in and out together: 0 goes 0 -> 1 by 3 of 4; 1 goes 1 -> 2, 2 wide, jams; 2 goes 1 -> 2, 1 wide
        FurnitureByFlood z = Told.town("H09H04H09S019S129P0310P1210P1110");
        due("15 in and out together", z.hour(1), 1 + 4);
        due("15 the second one stayed", z.piece(1, 0), 1);
        // what jams takes nothing of either door
        FurnitureByFlood u = Told.town("H09H01H09S025S013S129P1210P0810P1110");
        due("15 jams of the wide one", u.jams(1), 1);
        due("15 what jams takes nothing", u.hour(1), 2 + 4);
        // a piece wider than a door never goes, one as wide does
        FurnitureByFlood v = Told.town("H04H09S019P0510P0410");
        due("15 as wide as the door", v.hour(1), 2);
        due("15 wider than the door", v.hour(1), 0);
        due("15 wider than the door jams", v.jams(1), 1);
        // a tie breaks also when its piece jams
        FurnitureByFlood w = Told.town("H01H09S019P0212");
        due("15 it jams", w.hour(3), 0);
        due("15 its tie is broken", w.piece(0, 3), 0);
        // by number, not by width
        FurnitureByFlood s = Told.town("H09H02S019P0110P0210P0110");
        due("15 by number", s.hour(1), 1 + 4);
        // what stays, for there is no stream, takes nothing of the door
        FurnitureByFlood r = Told.town("H09H09S019P1910P0910");
        due("15 what stays takes nothing", r.hour(1), 2);
    }

    private static void hourRefused() {
        FurnitureByFlood x = Told.town("H09H09S019P0112");
        due("15 hour(-1)", x.hour(-1), BAD);
        due("15 hour(20)", x.hour(20), BAD);
        due("15 hour(LEAST)", x.hour(LEAST), BAD);
        due("15 hour(MOST)", x.hour(MOST), BAD);
        due("15 BAD is no act", x.about(4), 0);
        due("15 BAD moves nothing", x.piece(0, 0), 0);
        due("15 hour(0)", x.hour(0), 0);
        due("15 hour(0) is an act", x.about(4), 1);
        due("15 hour(19)", x.hour(19), 1);
    }

    // ---- promise 16

    private static void jams() {
        FurnitureByFlood x = Told.town("H03H03S019P0210P0210P0145P1910P0140");
        due("16 jams(0)", x.jams(0), 0);
        due("16 jams(1)", x.jams(1), 2);
        due("16 jams(4)", x.jams(4), 2);
        due("16 jams(6): piece 2 takes what is left", x.jams(6), 2 + 16);
        due("16 nothing is changed: where", x.house(0, 2), 1 + 2 + 4 + 16);
        due("16 nothing is changed: tie", x.piece(2, 3), 5);
        due("16 nothing is changed: acts", x.about(4), 0);
        due("16 jams(-1)", x.jams(-1), BAD);
        due("16 jams(20)", x.jams(20), BAD);
        due("16 jams(19)", x.jams(19), 2 + 16);
        x.shut(0, true);
        due("16 where no stream leads on none jams", x.jams(19), 0);
    }

    // ---- promise 17

    private static void spring() {
        FurnitureByFlood x = Told.town("H09H09H09S015S125P0110P1110P2110");
        due("17 spring() of nothing", x.spring(), 0);
        due("17 springs", x.about(3), 1);
        due("17 acts", x.about(4), 1);
        x.hour(1);
        due("17 spring()", x.spring(), 2);
        due("17 owner of 0", x.piece(0, 5), 1);
        due("17 owner of 1", x.piece(1, 5), 2);
        due("17 owner of 2", x.piece(2, 5), 2);
        due("17 spring() once more", x.spring(), 0);
        x.hour(1);
        x.carry(2, 0);
        x.carry(1, 0);
        x.carry(1, 2);
        due("17 spring() behind hands", x.spring(), 2);
        due("17 the third owner of 0", x.owner(0, 2), 2);
        due("17 the second owner of 1", x.owner(1, 1), 2);
        due("17 no third owner of 1", x.owner(1, 2), NONE);
        due("17 the second owner of 2", x.owner(2, 1), 0);
        due("17 springs", x.about(3), 4);
        x.carry(0, 0);
        due("17 home is another owner too", x.spring(), 1);
        due("17 back home", x.owner(0, 3), 0);
        due("17 ties stay", x.piece(0, 3), 0);
    }

    // ---- promise 18

    private static void undo() {
        FurnitureByFlood x = Told.town("H09H09H09S019S129P0113");
        due("18 undo() of nothing", x.undo(), LATE);
        x.hour(3);
        due("18 tied", x.piece(0, 0), 0);
        x.hour(4);
        due("18 loose", x.piece(0, 0) * 10 + x.piece(0, 3), 10);
        x.spring();
        x.hour(4);
        x.spring();
        due("18 springs", x.about(3), 2);
        due("18 undo() of a spring", x.undo(), 4);
        due("18 springs", x.about(3), 1);
        due("18 its owner", x.piece(0, 5), 1);
        due("18 its owners", x.owner(0, 2), NONE);
        due("18 where it is", x.piece(0, 0), 2);
        due("18 undo() of an hour", x.undo(), 3);
        due("18 where it was", x.piece(0, 0), 1);
        due("18 undo() of a spring", x.undo(), 2);
        due("18 its first owner", x.piece(0, 5), 0);
        due("18 undo() of an hour", x.undo(), 1);
        due("18 tied once more", x.piece(0, 0) * 10 + x.piece(0, 3), 3);
        // what hands did behind the act is undone with it, but not what is shut
        x.hour(4);
        x.carry(0, 2);
        x.tie(0, 7);
        x.shut(0, true);
        x.mark(1, 1);
        due("18 undo()", x.undo(), 1);
        due("18 where it was ahead of it", x.piece(0, 0), 0);
        due("18 as it was tied ahead of it", x.piece(0, 3), 3);
        due("18 what is shut stays so", x.stream(0, 3), 1);
        due("18 marks stay", x.about(7), 1);
        due("18 undo() of the first", x.undo(), 0);
        due("18 undo() of nothing", x.undo(), LATE);
        x.carry(0, 1);
        due("18 undo() still", x.undo(), LATE);
        due("18 LATE changes nothing", x.piece(0, 0), 1);
        // how it was ahead of an act, though hands were there between two
        FurnitureByFlood y = Told.town("H09H09P0110");
        y.hour(0);
        y.carry(0, 1);
        y.tie(0, 4);
        y.hour(0);
        y.carry(0, 0);
        due("18 undo() of the second", y.undo(), 1);
        due("18 where a hand had put it", y.piece(0, 0) * 10 + y.piece(0, 3), 14);
        due("18 undo() of the first", y.undo(), 0);
        due("18 where it was at first", y.piece(0, 0) * 10 + y.piece(0, 3), 0);
    }

    private static void undoOfTwelve() {
        FurnitureByFlood x = Told.town("H01P0110");
        for (int act = 1; act <= 15; act++) {
            x.tie(0, act % 10);
            if (act % 2 == 0) {
                x.spring();
            } else {
                x.hour(0);
            }
            due("18 acts after " + act, x.about(4), Math.min(act, 12));
        }
        due("18 springs", x.about(3), 7);
        for (int left = 11; left >= 0; left--) {
            due("18 undo() to " + left, x.undo(), left);
            due("18 tied then", x.piece(0, 3), (left + 4) % 10);
            due("18 springs then", x.about(3), (left + 3) / 2);
        }
        due("18 the first ones are forgotten", x.undo(), LATE);
        due("18 about(4)", x.about(4), 0);
        x.tie(0, 9);
        x.hour(0);
        x.tie(0, 8);
        due("18 undo() behind that", x.undo(), 0);
        due("18 tied as ahead of it", x.piece(0, 3), 9);
    }

    // ---- promise 19

    private static void after() {
        FurnitureByFlood x = Told.town("H09H09H09H09S019S129S239P0110P0153");
        due("19 after(0, 0, 9)", x.after(0, 0, 9), 0);
        due("19 after(0, 1, 1)", x.after(0, 1, 1), 1);
        due("19 after(0, 1, 2)", x.after(0, 1, 2), 2);
        due("19 after(0, 1, 3)", x.after(0, 1, 3), 3);
        due("19 after(0, 1, 9)", x.after(0, 1, 9), 3);
        due("19 after(1, 4, 9)", x.after(1, 4, 9), 0);
        due("19 after(1, 5, 2)", x.after(1, 5, 2), 2);
        due("19 nothing is changed: where", x.house(0, 2), 3);
        due("19 nothing is changed: tie", x.piece(1, 3), 3);
        due("19 nothing is changed: acts", x.about(4), 0);
        due("19 after(0, 1, 0)", x.after(0, 1, 0), BAD);
        due("19 after(0, 1, 10)", x.after(0, 1, 10), BAD);
        due("19 after(0, 1, -1)", x.after(0, 1, -1), BAD);
        due("19 after(0, -1, 1)", x.after(0, -1, 1), BAD);
        due("19 after(0, 20, 1)", x.after(0, 20, 1), BAD);
        due("19 after(0, 19, 1)", x.after(0, 19, 1), 1);
        due("19 after(2, 1, 1)", x.after(2, 1, 1), UNKNOWN);
        due("19 after(-1, 1, 1)", x.after(-1, 1, 1), UNKNOWN);
        due("19 UNKNOWN ahead of BAD", x.after(2, 20, 0), UNKNOWN);
        // all others go too: a door is taken by the first one, an hour later it is free
        FurnitureByFlood y = Told.town("H03H09S019P0310P0310P0310");
        due("19 after(2, 1, 1)", y.after(2, 1, 1), 0);
        due("19 after(2, 1, 2)", y.after(2, 1, 2), 0);
        due("19 after(2, 1, 3)", y.after(2, 1, 3), 1);
        // a tie that breaks in the first hour is broken in the second, where it is less deep
        FurnitureByFlood z = Told.town("H09H59H09S019S129P0114");
        due("19 after(0, 6, 2)", z.after(0, 6, 2), 2);
        due("19 after(0, 5, 2)", z.after(0, 5, 2), 1);
        // a ring: nine hours are one more than eight
        FurnitureByFlood r = Told.town("H09H09S019S109P0110");
        due("19 after(0, 1, 8)", r.after(0, 1, 8), 0);
        due("19 after(0, 1, 9)", r.after(0, 1, 9), 1);
    }

    // ---- promise 20

    private static void bothTies(FurnitureByFlood x, int pieces, int level, int n, int cost, int set) {
        String call = "20 ties(" + pieces + ", " + level + ", " + n + ", ";
        due(call + "false)", x.ties(pieces, level, n, false), cost);
        due(call + "true)", x.ties(pieces, level, n, true), set);
    }

    private static void ties() {
        FurnitureByFlood x = Told.town("H09H29S015P0110P0130P1110");
        bothTies(x, 0, 9, 1, 0, 0);
        bothTies(x, 1, 0, 1, 0, 0);
        bothTies(x, 1, 2, 1, 2, 1);
        bothTies(x, 2, 2, 1, 0, 0);
        bothTies(x, 3, 4, 9, 8, 3);
        bothTies(x, 7, 9, 9, 18, 3);
        bothTies(x, 4, 9, 9, 0, 0);
        due("20 nothing is changed", x.piece(0, 3) + x.piece(1, 3) + x.house(1, 2), 4);
        due("20 nothing is an act", x.about(4), 0);
        due("20 ties(8, 1, 1, true)", x.ties(8, 1, 1, true), BAD);
        due("20 ties(-1, 1, 1, true)", x.ties(-1, 1, 1, true), BAD);
        due("20 ties(64, 1, 1, false)", x.ties(64, 1, 1, false), BAD);
        due("20 ties(LEAST, 1, 1, false)", x.ties(LEAST, 1, 1, false), BAD);
        due("20 ties(MOST, 1, 1, false)", x.ties(MOST, 1, 1, false), BAD);
        due("20 ties(1, -1, 1, false)", x.ties(1, -1, 1, false), BAD);
        due("20 ties(1, 20, 1, false)", x.ties(1, 20, 1, false), BAD);
        due("20 ties(1, 1, 0, false)", x.ties(1, 1, 0, false), BAD);
        due("20 ties(1, 1, 10, false)", x.ties(1, 1, 10, false), BAD);
        // as they are tied already, nothing is to be paid
        x.tie(0, 5);
        bothTies(x, 1, 5, 9, 0, 0);
        bothTies(x, 1, 6, 1, 6, 1);
        // a ring of two: behind two hours it is where it was, though it was away between
        FurnitureByFlood r = Told.town("H09H09S019S109P0110");
        bothTies(r, 1, 3, 2, 0, 0);
        bothTies(r, 1, 3, 3, 3, 1);
        r.tie(0, 1);
        bothTies(r, 1, 3, 4, 0, 0);
        bothTies(r, 1, 1, 3, 0, 0);
    }

    private static void tiesOfLikeCosts() {
        // the two go round in turn: one of them has to be tied, or is told not to stay
        FurnitureByFlood x = Told.town("H09H09H09S014S104P0110P1110");
        bothTies(x, 1, 2, 1, 2, 1);
        bothTies(x, 2, 2, 1, 2, 2);
        bothTies(x, 3, 2, 1, 4, 3);
        // door of house 1 lets 3 through: piece 0 (2 wide) goes in and blocks piece 1 (2 wide); both of house 0,
        // where water is as deep: to keep piece 1 nothing is to be paid, to keep both costs both
        FurnitureByFlood y = Told.town("H09H03S019P0210P0210");
        bothTies(y, 2, 4, 1, 0, 0);
        bothTies(y, 1, 4, 1, 4, 1);
        bothTies(y, 3, 4, 1, 8, 3);
        // piece 2, 3 wide, in house 2, jams if piece 0 or piece 1 goes through the door of house 1, which lets 4 through
        FurnitureByFlood z = Told.town("H09H04H19S019S219P0210P0210P2310");
        bothTies(z, 4, 3, 1, 0, 0);
        bothTies(z, 5, 3, 1, 3, 1);
        bothTies(z, 6, 3, 1, 3, 2);
        bothTies(z, 7, 3, 1, 3 + 3 + 2, 7);
        // two of house 0 go on one behind the other, an hour each: in the third hour piece 2 goes if it has no tie
        FurnitureByFlood u = Told.town("H09H04H29S019S219P0310P0310P2310P1310");
        bothTies(u, 4, 3, 1, 0, 0);
        bothTies(u, 4, 3, 2, 0, 0);
        bothTies(u, 4, 3, 3, 1, 4);
        // the door of house 2 lets piece 0 out alone: piece 1 jams behind it, and goes in the second hour
        FurnitureByFlood w = Told.town("H05H09H03S215S019P2310P2210P0110");
        bothTies(w, 2, 1, 1, 0, 0);
        bothTies(w, 2, 1, 2, 1, 2);
        tiesThatHelp();
    }

    /**
     * Piece 1 goes 0 -> 1 -> 0 in two hours, but for piece 0, which takes the door of house 1 in the first one
     * (and lies dry there in the second): piece 1 is away then. To tie either of them helps.
     */
    private static void tiesThatHelp() {
        FurnitureByFlood x = Told.town("H09H25H19S019S109S219P2520P0310");
        due("20 piece 1 jams in the first hour", x.jams(3), 2);
        due("20 so it is away behind two", x.after(1, 3, 2), 1);
        bothTies(x, 2, 3, 2, 2, 1);
        bothTies(x, 3, 3, 2, 2, 1);
        bothTies(x, 2, 3, 1, 0, 0);
        // as deep in both their houses: of like costs the least set
        FurnitureByFlood y = Told.town("H09H25H09S019S109S219P2530P0310");
        bothTies(y, 2, 3, 2, 3, 1);
        // less deep in house 0: the greater set costs less
        FurnitureByFlood z = Told.town("H19H25H09S019S109S219P2530P0310");
        bothTies(z, 2, 3, 2, 2, 2);
        bothTies(z, 3, 3, 2, 3, 1);
        // the one that goes ahead is not held up
        FurnitureByFlood w = Told.town("H09H25H09S019S109S219P0310P2530");
        bothTies(w, 1, 3, 2, 0, 0);
        bothTies(w, 1, 3, 3, 3, 1);
    }

    private static void tiesThatCanNotBe() {
        FurnitureByFlood x = Told.town("H09H09S015P0110P1110");
        bothTies(x, 1, 9, 1, 9, 1);
        bothTies(x, 1, 10, 1, NONE, NONE);
        bothTies(x, 3, 19, 9, NONE, NONE);
        bothTies(x, 2, 19, 9, 0, 0);
        bothTies(x, 0, 19, 9, 0, 0);
        x.shut(0, true);
        bothTies(x, 3, 19, 9, 0, 0);
        // deeper than nine a tie costs nine and breaks: the ring alone brings it back
        FurnitureByFlood r = Told.town("H09H09S019S109P0110");
        bothTies(r, 1, 19, 2, 0, 0);
        bothTies(r, 1, 19, 1, NONE, NONE);
    }

    // ---- promise 21

    private static void dowry() {
        FurnitureByFlood x = Told.town("H09H09H09H09S019S129S309P3110P0134");
        due("21 dowry(0, 1, 1, 1)", x.dowry(0, 1, 1, 1), 0);
        due("21 dowry(0, 1, 2, 1)", x.dowry(0, 1, 2, 1), 3);
        due("21 dowry(0, 1, 2, 2)", x.dowry(0, 1, 2, 2), 0);
        due("21 dowry(0, 1, 3, 2)", x.dowry(0, 1, 3, 2), 0);
        due("21 dowry(0, 1, 1, 0)", x.dowry(0, 1, 1, 0), 3);
        due("21 dowry(0, 1, 2, 0)", x.dowry(0, 1, 2, 0), NONE);
        due("21 dowry(0, 1, 1, 3)", x.dowry(0, 1, 1, 3), NONE);
        due("21 dowry(0, 0, 9, 3)", x.dowry(0, 0, 9, 3), 3);
        due("21 tied: it stays where it is put", x.dowry(1, 4, 9, 3), 3);
        due("21 tied: it breaks", x.dowry(1, 5, 9, 3), NONE);
        due("21 nothing is changed", x.piece(0, 0) * 10 + x.piece(1, 3), 34);
        due("21 no act", x.about(4), 0);
        due("21 dowry(2, 1, 1, 0)", x.dowry(2, 1, 1, 0), UNKNOWN);
        due("21 dowry(-1, 1, 1, 0)", x.dowry(-1, 1, 1, 0), UNKNOWN);
        due("21 dowry(0, 1, 1, 4)", x.dowry(0, 1, 1, 4), UNKNOWN);
        due("21 dowry(0, 1, 1, -1)", x.dowry(0, 1, 1, -1), UNKNOWN);
        due("21 dowry(0, 20, 1, 0)", x.dowry(0, 20, 1, 0), BAD);
        due("21 dowry(0, -1, 1, 0)", x.dowry(0, -1, 1, 0), BAD);
        due("21 dowry(0, 1, 0, 0)", x.dowry(0, 1, 0, 0), BAD);
        due("21 dowry(0, 1, 10, 0)", x.dowry(0, 1, 10, 0), BAD);
        due("21 UNKNOWN ahead of BAD", x.dowry(0, 20, 0, 4), UNKNOWN);
        // the others go too: piece 0 takes the door of house 1, so piece 1 of house 2 jams there
        FurnitureByFlood y = Told.town("H09H03H09S019S219P0310P2310");
        due("21 it jams in house 2", y.dowry(1, 1, 1, 2), 2);
        due("21 only what is there comes to be there", y.dowry(1, 1, 1, 1), 1);
        y.tie(0, 9);
        due("21 the way is free", y.dowry(1, 1, 1, 1), 0);
        due("21 it can not stay", y.dowry(1, 1, 1, 2), NONE);
    }

    // ---- promise 22

    private static void toShut() {
        FurnitureByFlood x = Told.town("H09H09H09S015S024S129P0210P1310");
        due("22 toShut(0, 1, 1): by neither alone it stays", x.toShut(0, 1, 1), NONE);
        due("22 toShut(1, 1, 1): it stays there", x.toShut(1, 1, 1), 2);
        due("22 toShut(2, 1, 1): one more comes", x.toShut(2, 1, 1), 0);
        due("22 toShut(2, 1, 2): all are there", x.toShut(2, 1, 2), NONE);
        due("22 toShut(1, 1, 2)", x.toShut(1, 1, 2), 2);
        due("22 toShut(0, 0, 9)", x.toShut(0, 0, 9), NONE);
        x.shut(1, true);
        due("22 what is shut is shut", x.toShut(0, 1, 1), 0);
        x.shut(0, true);
        due("22 what is shut can not be shut", x.toShut(0, 1, 1), NONE);
        due("22 nothing is changed", x.stream(2, 3) * 10 + x.piece(0, 0), 0);
        due("22 no act", x.about(4), 0);
        due("22 toShut(3, 1, 1)", x.toShut(3, 1, 1), UNKNOWN);
        due("22 toShut(-1, 1, 1)", x.toShut(-1, 1, 1), UNKNOWN);
        due("22 toShut(0, 20, 1)", x.toShut(0, 20, 1), BAD);
        due("22 toShut(0, -1, 1)", x.toShut(0, -1, 1), BAD);
        due("22 toShut(0, 1, 0)", x.toShut(0, 1, 0), BAD);
        due("22 toShut(0, 1, 10)", x.toShut(0, 1, 10), BAD);
        due("22 UNKNOWN ahead of BAD", x.toShut(3, 20, 0), UNKNOWN);
        // the most, not the first that is more: shut 0 gives 2, shut 1 gives 3
        FurnitureByFlood y = Told.town("H09H09H09H09S109S209S309S019P1210P2310P3110P0110");
        due("22 toShut(1, 1, 1)", y.toShut(1, 1, 1), 0);
        due("22 toShut(0, 1, 1): one more stays", y.toShut(0, 1, 1), 3);
        FurnitureByFlood z = Told.town("H09H09H09H09S015S023S032S125S214P0210P1310");
        due("22 toShut(2, 1, 1)", z.toShut(2, 1, 1), 0);
        // of like ones the least: house 3 is fed from 0 once 0 -> 1 is shut, and from 2 once 2 -> 1 is shut
        FurnitureByFlood w = Told.town("H09H09H09H09S215S234S015S034P0310P2310");
        due("22 of like ones the least", w.toShut(3, 1, 1), 0);
        FurnitureByFlood v = Told.town("H09H09H09H09S215S234S015S034P0410P2310");
        due("22 the one that makes it most", v.toShut(3, 1, 1), 2);
        due("22 width, not how many", widthAgainstCount(), 1);
    }

    /** By stream 0 two narrow ones come to house 3, by stream 2 one wide one. */
    private static int widthAgainstCount() {
        FurnitureByFlood x = Told.town("H09H09H09H09S215S234S015S034P2110P2110P0310");
        return x.toShut(3, 1, 1) == 2 ? 1 : 0;
    }

    // ---- promise 23

    private static void chance(FurnitureByFlood x, int level, int n, int house, long upper, long lower) {
        String call = "23 drawn(0, " + level + ", " + n + ", " + house + ", ";
        due(call + "true)", x.drawn(0, level, n, house, true), upper);
        due(call + "false)", x.drawn(0, level, n, house, false), lower);
    }

    private static void drawn() {
        FurnitureByFlood x = Told.town("H01H11H01S015S023S127P0929");
        chance(x, 1, 1, 0, 1, 1);
        chance(x, 1, 1, 1, 0, 1);
        // neither its tie nor a door holds it
        chance(x, 2, 1, 0, 1, 5);
        chance(x, 2, 1, 1, 1, 2);
        chance(x, 2, 1, 2, 3, 10);
        // level 2 is too low in house 1: 2 hours: 0: 4/100; 1: 50 + 10 = 60/100; 2: 30 + 6 = 36/100
        chance(x, 2, 2, 0, 1, 25);
        chance(x, 2, 2, 1, 3, 5);
        chance(x, 2, 2, 2, 9, 25);
        // at level 3 it goes on from house 1: 1: 5*3 + 2*5 = 25/100; 2: 30 + 2*3 + 5*7 = 71/100
        chance(x, 3, 2, 0, 1, 25);
        chance(x, 3, 2, 1, 1, 4);
        chance(x, 3, 2, 2, 71, 100);
        x.shut(0, true);
        chance(x, 3, 1, 0, 7, 10);
        chance(x, 3, 1, 1, 0, 1);
        chance(x, 3, 1, 2, 3, 10);
        x.carry(0, 1);
        chance(x, 3, 1, 2, 7, 10);
        chance(x, 3, 9, 0, 0, 1);
        due("23 nothing is changed", x.piece(0, 0) * 10 + x.piece(0, 3), 19);
        due("23 no act", x.about(4), 0);
        due("23 drawn(1, 1, 1, 0, true)", x.drawn(1, 1, 1, 0, true), UNKNOWN);
        due("23 drawn(-1, 1, 1, 0, true)", x.drawn(-1, 1, 1, 0, true), UNKNOWN);
        due("23 drawn(0, 1, 1, 3, true)", x.drawn(0, 1, 1, 3, true), UNKNOWN);
        due("23 drawn(0, 1, 1, -1, false)", x.drawn(0, 1, 1, -1, false), UNKNOWN);
        due("23 drawn(0, 20, 1, 0, true)", x.drawn(0, 20, 1, 0, true), BAD);
        due("23 drawn(0, -1, 1, 0, true)", x.drawn(0, -1, 1, 0, true), BAD);
        due("23 drawn(0, 1, 0, 0, true)", x.drawn(0, 1, 0, 0, true), BAD);
        due("23 drawn(0, 1, 10, 0, false)", x.drawn(0, 1, 10, 0, false), BAD);
        due("23 UNKNOWN ahead of BAD", x.drawn(0, 20, 0, 3, false), UNKNOWN);
    }

    private static void drawnLeastTerms() {
        FurnitureByFlood x = Told.town("H01H01S015P0110");
        chance(x, 1, 9, 0, 1, 512);
        chance(x, 1, 9, 1, 511, 512);
        FurnitureByFlood y = Told.town("H01H01S012P0110");
        chance(y, 1, 9, 0, 262144, 1953125);
        chance(y, 1, 9, 1, 1953125 - 262144, 1953125);
        FurnitureByFlood z = Told.town("H01H01S013P0110");
        chance(z, 1, 9, 0, 40353607, 1000000000);
        chance(z, 1, 9, 1, 1000000000 - 40353607, 1000000000);
        // ten tenths: none stays
        FurnitureByFlood w = Told.town("H01H01H01S019S021P0110");
        chance(w, 1, 1, 0, 0, 1);
        chance(w, 1, 9, 1, 9, 10);
        // a ring of nine tenths each way
        FurnitureByFlood r = Told.town("H01H01S019S109P0110");
        chance(r, 1, 2, 0, 41, 50);
        chance(r, 1, 2, 1, 9, 50);
    }

    // ---- promise 24

    private static void goesFrom() {
        FurnitureByFlood x = Told.town("H21H93S019P0150P0136P0163P1110P0119P0136");
        due("24 by what depth it floats", x.goesFrom(0), 7);
        due("24 its tie is what holds longer", x.goesFrom(1), 9);
        due("24 its tie breaks ahead of that", x.goesFrom(2), 8);
        due("24 no stream leads from there", x.goesFrom(3), NONE);
        due("24 a tie of nine", x.goesFrom(4), 12);
        due("24 nothing is changed", x.piece(4, 3), 9);
        x.tie(1, 2);
        due("24 as it is tied now", x.goesFrom(1), 5);
        x.tie(1, 3);
        due("24 tied as deep as it floats", x.goesFrom(1), 6);
        x.carry(1, 1);
        due("24 where it is now", x.goesFrom(1), NONE);
        x.shut(0, true);
        due("24 what leads from there is shut", x.goesFrom(0), NONE);
        due("24 goesFrom(6)", x.goesFrom(6), UNKNOWN);
        due("24 goesFrom(-1)", x.goesFrom(-1), UNKNOWN);
        due("24 goesFrom(MOST)", x.goesFrom(MOST), UNKNOWN);
        // the highest house, the best tie
        FurnitureByFlood y = Told.town("H91H01S019S109P0199P0110P0910P1110");
        due("24 the highest level", y.goesFrom(0), 19);
        due("24 a level of ten", y.goesFrom(1), 10);
        due("24 one that can only jam", y.goesFrom(2), 10);
        due("24 a level of one", y.goesFrom(3), 1);
    }

    // ---- promise 25

    private static void mark() {
        FurnitureByFlood x = Told.town("H11H11S015");
        due("25 mark(1, 0)", x.mark(1, 0), 1);
        due("25 mark(9, 1)", x.mark(9, 1), 2);
        due("25 mark(0, 0)", x.mark(0, 0), BAD);
        due("25 mark(10, 0)", x.mark(10, 0), BAD);
        due("25 mark(-1, 0)", x.mark(-1, 0), BAD);
        due("25 mark(MOST, 0)", x.mark(MOST, 0), BAD);
        due("25 mark(LEAST, 0)", x.mark(LEAST, 0), BAD);
        due("25 mark(1, 2)", x.mark(1, 2), UNKNOWN);
        due("25 mark(1, -1)", x.mark(1, -1), UNKNOWN);
        due("25 UNKNOWN ahead of BAD", x.mark(0, 2), UNKNOWN);
        due("25 what is refused changes nothing", x.about(7), 2);
        for (int i = 3; i <= 8; i++) {
            due("25 mark " + i, x.mark(i, 1), i);
        }
        due("25 the ninth", x.mark(2, 0), FULL);
        due("25 the ninth, though it is there already", x.mark(1, 0), FULL);
        due("25 BAD ahead of FULL", x.mark(0, 0), BAD);
        due("25 UNKNOWN ahead of FULL", x.mark(2, 2), UNKNOWN);
        due("25 eight", x.about(7), 8);
        due("25 FULL changes nothing", x.rows(2, 0), 2);
        due("25 no act", x.about(4), 0);
    }

    // ---- promise 26

    private static void unmark() {
        FurnitureByFlood x = Told.town("H11H11S015");
        due("26 unmark() of none", x.unmark(), 0);
        for (int i = 1; i <= 8; i++) {
            x.mark(i, 1);
        }
        due("26 rows ahead", x.rows(1, 0), 1);
        due("26 unmark()", x.unmark(), 8);
        due("26 none", x.about(7), 0);
        due("26 unmark() once more", x.unmark(), 0);
        due("26 rows behind", x.rows(1, 0), 2);
        due("26 mark()", x.mark(1, 0), 1);
        due("26 rows of the new one", x.ends(1, 0), 1);
    }

    // ---- promise 27

    private static void rows() {
        FurnitureByFlood x = Told.town("H11H11H11S015S125");
        due("27 rows(0, 0)", x.rows(0, 0), 1);
        due("27 rows(1, 0)", x.rows(1, 0), 2);
        due("27 rows(2, 0)", x.rows(2, 0), 4);
        due("27 rows(3, 0)", x.rows(3, 0), 7);
        due("27 rows(9, 0)", x.rows(9, 0), 46);
        due("27 rows(9, 2)", x.rows(9, 2), 1);
        due("27 rows(9, 1)", x.rows(9, 1), 10);
        x.shut(0, true);
        due("27 whether shut or not", x.rows(2, 0), 4);
        x.mark(2, 1);
        due("27 rows(1, 0) of a later mark", x.rows(1, 0), 2);
        due("27 rows(2, 0) of a mark", x.rows(2, 0), 2);
        due("27 rows(3, 0) of a mark", x.rows(3, 0), 4);
        due("27 rows(9, 0) of a mark", x.rows(9, 0), 16);
        due("27 rows(2, 2) of a mark", x.rows(2, 2), 0);
        x.mark(2, 1);
        due("27 the same mark twice", x.rows(2, 0), 2);
        x.mark(2, 0);
        due("27 two houses at one spring", x.rows(2, 0), 0);
        due("27 ahead of it", x.rows(1, 0), 2);
        due("27 behind it", x.rows(9, 0), 0);
        due("27 rows(0, 1)", x.rows(0, 1), 1);
        due("27 rows(10, 0)", x.rows(10, 0), BAD);
        due("27 rows(-1, 0)", x.rows(-1, 0), BAD);
        due("27 rows(MOST, 0)", x.rows(MOST, 0), BAD);
        due("27 rows(0, 3)", x.rows(0, 3), UNKNOWN);
        due("27 rows(0, -1)", x.rows(0, -1), UNKNOWN);
        due("27 UNKNOWN ahead of BAD", x.rows(10, 3), UNKNOWN);
        // three houses, each with streams to both others: three ways on each spring
        FurnitureByFlood y = Told.town("H11H11H11S011S021S101S121S201S211");
        due("27 rows(9, 1) of a full town", y.rows(9, 1), 19683);
        y.mark(9, 2);
        due("27 the last spring is told", y.rows(9, 1), 6561);
        y.mark(1, 0);
        due("27 the first spring too", y.rows(9, 1), 2187);
    }

    // ---- promise 28

    private static void ends() {
        FurnitureByFlood x = Told.town("H11H11H11H11S015S125S235");
        due("28 ends(0, 0)", x.ends(0, 0), 1);
        due("28 ends(0, 3)", x.ends(0, 3), 8);
        due("28 ends(1, 0)", x.ends(1, 0), 3);
        due("28 ends(2, 0)", x.ends(2, 0), 7);
        due("28 ends(9, 0)", x.ends(9, 0), 15);
        due("28 ends(9, 2)", x.ends(9, 2), 12);
        x.shut(0, true);
        due("28 whether shut or not", x.ends(1, 0), 3);
        x.mark(2, 1);
        due("28 ends(1, 0) of a later mark", x.ends(1, 0), 3);
        due("28 ends(2, 0) of a mark", x.ends(2, 0), 2);
        due("28 ends(3, 0) of a mark", x.ends(3, 0), 6);
        due("28 ends(2, 2) of a mark", x.ends(2, 2), 0);
        due("28 ends(10, 0)", x.ends(10, 0), BAD);
        due("28 ends(-1, 0)", x.ends(-1, 0), BAD);
        due("28 ends(0, 4)", x.ends(0, 4), UNKNOWN);
        due("28 ends(0, -1)", x.ends(0, -1), UNKNOWN);
        due("28 UNKNOWN ahead of BAD", x.ends(10, 4), UNKNOWN);
    }

    // ---- promise 29

    private static void keep() {
        FurnitureByFlood x = Told.town("H09H09S019P0110");
        due("29 keep(0)", x.keep(0), 0);
        x.spring();
        x.hour(1);
        due("29 keep(1)", x.keep(1), 1);
        due("29 acts stay", x.about(4), 2);
        due("29 keep(2)", x.keep(2), UNKNOWN);
        due("29 keep(-1)", x.keep(-1), UNKNOWN);
        due("29 keep(MOST)", x.keep(MOST), UNKNOWN);
        due("29 keep(LEAST)", x.keep(LEAST), UNKNOWN);
        x.spring();
        x.carry(0, 0);
        due("29 what is kept does not go on", x.again(1), 1);
        due("29 where it was kept", x.piece(0, 0), 1);
        due("29 the other slot", x.again(0), 0);
        due("29 where it was kept there", x.piece(0, 0), 0);
        x.spring();
        due("29 kept anew", x.keep(0), 1);
        due("29 the newer one", x.again(0), 1);
    }

    // ---- promise 30

    private static void again() {
        FurnitureByFlood x = Told.town("H09H09H09S019S129P0113P1110");
        due("30 again(0)", x.again(0), LATE);
        due("30 again(1)", x.again(1), LATE);
        due("30 again(2)", x.again(2), UNKNOWN);
        due("30 again(-1)", x.again(-1), UNKNOWN);
        due("30 again(MOST)", x.again(MOST), UNKNOWN);
        x.shut(1, true);
        x.carry(1, 2);
        x.tie(1, 5);
        x.spring();
        x.keep(0);
        due("30 again(1) when 0 is kept", x.again(1), LATE);
        due("30 LATE changes nothing", x.about(4), 1);
        x.shut(1, false);
        x.shut(0, true);
        x.carry(1, 0);
        x.carry(0, 2);
        x.tie(0, 0);
        x.tie(1, 0);
        x.spring();
        x.spring();
        x.mark(1, 1);
        due("30 again(0)", x.again(0), 1);
        due("30 where 0 is", x.piece(0, 0), 0);
        due("30 where 1 is", x.piece(1, 0), 2);
        due("30 ties", x.piece(0, 3) * 10 + x.piece(1, 3), 35);
        due("30 owner of 0", x.piece(0, 5), 0);
        due("30 owners of 0", x.owner(0, 1), NONE);
        due("30 owner of 1", x.piece(1, 5), 2);
        due("30 owners of 1", x.owner(1, 1), 2);
        due("30 no more owners of 1", x.owner(1, 2), NONE);
        due("30 springs", x.about(3), 1);
        due("30 shut", x.stream(0, 3) * 10 + x.stream(1, 3), 1);
        due("30 no acts", x.about(4), 0);
        due("30 nothing to undo", x.undo(), LATE);
        due("30 marks stay", x.about(7), 1);
        x.hour(9);
        x.spring();
        due("30 it goes on from there", x.about(3), 2);
        due("30 acts anew", x.about(4), 2);
        due("30 undo()", x.undo(), 1);
        due("30 again(0) once more", x.again(0), 1);
        due("30 as it was kept", x.piece(0, 3), 3);
        // owners that came behind an undo are not those that were kept
        FurnitureByFlood y = Told.town("H09H09H09P0110");
        y.carry(0, 1);
        y.spring();
        y.keep(1);
        y.undo();
        y.carry(0, 2);
        y.spring();
        due("30 another owner", y.owner(0, 1), 2);
        due("30 again(1)", y.again(1), 1);
        due("30 the owner that was kept", y.owner(0, 1), 1);
        due("30 who is the owner", y.piece(0, 5), 1);
    }

    // ---- of many promises

    /** All that can be told is told: the last HOUSE, STREAM, PIECE count as the others do. */
    private static void fullTown() {
        FurnitureByFlood x = Told.town("H09H09H09H09H09H19" + "S051S041S032S023S101S124S231S342S453S509"
            + "P5110P5220P0110P0350P5110P5415");
        due("5 houses", x.about(0), 6);
        due("5 streams", x.about(1), 10);
        due("5 pieces", x.about(2), 6);
        due("7 the last house", x.house(5, 0) * 10 + x.house(5, 1), 19);
        due("7 who is in it", x.house(5, 2), 1 + 2 + 16 + 32);
        due("7 how wide they are", x.house(5, 3), 8);
        due("8 the last stream", x.stream(9, 0) * 100 + x.stream(9, 1) * 10 + x.stream(9, 2), 509);
        due("8 stream(10, 0)", x.stream(10, 0), UNKNOWN);
        due("9 the last piece", x.piece(5, 0) * 1000 + x.piece(5, 1) * 100 + x.piece(5, 2) * 10 + x.piece(5, 3), 5415);
        due("9 piece(6, 0)", x.piece(6, 0), UNKNOWN);
        due("20 ties(63, 5, 1, false)", x.ties(63, 5, 1, false), 3 * 4 + 2 * 5);
        due("20 ties(63, 5, 1, true)", x.ties(63, 5, 1, true), 31);
        due("20 ties(64, 5, 1, true)", x.ties(64, 5, 1, true), BAD);
        due("21 dowry(5, 9, 1, 0): there it jams", x.dowry(5, 9, 1, 0), 0);
        due("21 dowry(5, 9, 1, 5)", x.dowry(5, 9, 1, 5), 4);
        due("22 toShut(5, 2, 1)", x.toShut(5, 2, 1), 9);
        due("24 goesFrom(5)", x.goesFrom(5), 7);
        due("27 rows(1, 0)", x.rows(1, 0), 5);
        due("28 ends(1, 4)", x.ends(1, 4), 16 + 32);
        due("13 shut(9, true)", x.shut(9, true), 1);
        x.keep(1);
        due("15 hour(2)", x.hour(2), 4);
        x.shut(9, false);
        due("15 hour(3)", x.hour(3), 1 + 2 + 4 + 16);
        due("15 hour(7): the last one jams", x.hour(7), 31);
        due("15 hour(7)", x.hour(7), 63);
        due("15 the last piece", x.piece(5, 0) * 10 + x.piece(5, 3), 0);
        due("17 spring()", x.spring(), 6);
        due("10 owner(5, 1)", x.owner(5, 1), 0);
        due("6 about(5)", x.about(5), 6);
        due("6 about(6)", x.about(6), 6);
        due("30 again(1)", x.again(1), 0);
        due("30 the last stream", x.stream(9, 3), 1);
        due("30 the last piece", x.piece(5, 0) * 10 + x.piece(5, 3), 55);
        due("30 its owner", x.piece(5, 5), 5);
        due("30 its owners", x.owner(5, 1), NONE);
        due("6 about(5)", x.about(5), 0);
        due("6 about(6)", x.about(6), 0);
    }

    /** A TOWN of fewer: nothing is left of the greater one ahead of it. */
    private static void fewerThanBefore() {
        FurnitureByFlood x = Told.town("H09H09H09S015S025S205P0110P1110P2510");
        x.carry(2, 0);
        x.spring();
        x.shut(2, true);
        x.shut(0, true);
        x.carry(2, 1);
        Told.rewrite(x, "H09H09S103P0110P1110");
        due("5 town()", x.town(), 2);
        due("5 nothing is shut", x.stream(0, 3), 0);
        due("6 about(5)", x.about(5), 0);
        due("6 about(6)", x.about(6), 0);
        due("7 house(1, 2)", x.house(1, 2), 2);
        due("7 house(1, 3)", x.house(1, 3), 1);
        due("7 house(2, 0)", x.house(2, 0), UNKNOWN);
        due("15 hour(1)", x.hour(1), 2);
        due("15 hour(1) once more", x.hour(1), 0);
        due("16 jams(1)", x.jams(1), 0);
        due("17 spring()", x.spring(), 1);
        due("20 ties(3, 1, 1, true)", x.ties(3, 1, 1, true), 0);
        due("20 ties(4, 1, 1, true)", x.ties(4, 1, 1, true), BAD);
        due("21 dowry(0, 1, 1, 1)", x.dowry(0, 1, 1, 1), NONE);
        due("22 toShut(1, 1, 1)", x.toShut(1, 1, 1), NONE);
        due("23 drawn(0, 1, 1, 0, true)", x.drawn(0, 1, 1, 0, true), 1);
        due("24 goesFrom(0)", x.goesFrom(0), NONE);
        due("27 rows(2, 0)", x.rows(2, 0), 1);
        due("27 rows(2, 1)", x.rows(2, 1), 3);
        due("28 ends(9, 1)", x.ends(9, 1), 3);
    }
}
