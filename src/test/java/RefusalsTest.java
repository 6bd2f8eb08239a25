import java.util.ArrayList;
import java.util.List;
import java.util.function.Supplier;

/**
 * Each refusal that a promise names, for every argument and far beyond its edges (also where an index or a bit
 * would wrap round); which of several is told first; that what is refused, or only looked at, changes nothing.
 */
public final class RefusalsTest {
    private static final int UNKNOWN = -1, BAD = -2, LATE = -3, FULL = -4;
    private static final int LEAST = Integer.MIN_VALUE, MOST = Integer.MAX_VALUE;
    private static final int[] FAR = {LEAST, LEAST + 1, -65536, -257, -256, -65, -64, -33, -32, -10, -9, -6, -4, -3,
        -2, -1, 0, 1, 2, 3, 6, 8, 9, 10, 12, 19, 20, 31, 32, 33, 63, 64, 65, 96, 127, 128, 255, 256, 257, 512,
        65536, 1 << 30, MOST - 1, MOST};

    private interface Call {
        long on(FurnitureByFlood x);
    }

    /** An object with a history, and how many HOUSES, STREAMS, PIECES there are in it. */
    private record State(String name, int houses, int streams, int pieces, Supplier<FurnitureByFlood> made) {
    }

    private final State state;

    private RefusalsTest(State state) {
        this.state = state;
    }

    public static void main(String[] args) {
        List<State> states = List.of(
            new State("new", 0, 0, 0, FurnitureByFlood::new),
            new State("house alone", 1, 0, 0, () -> Told.town("H09")),
            new State("begun", 3, 3, 2, RefusalsTest::begun),
            new State("full", 6, 10, 6, RefusalsTest::full));
        for (State state : states) {
            RefusalsTest test = new RefusalsTest(state);
            test.ofTheTown();
            test.ofTheTownByTwo();
            test.ofFloods();
            test.ofTiesAndDowries();
            test.ofShutsAndChances();
            test.ofMarksAndSlots();
            test.looks();
        }
        late();
        fullText();
        fullMarks();
        Check.end();
    }

    // ---- the objects

    /** A town with all that can be changed changed once; THE TEXT is another town by now. */
    private static FurnitureByFlood begun() {
        FurnitureByFlood x = Told.town("H09H19H29S015S123S209P0213P1120");
        x.keep(0);
        x.hour(5);
        x.carry(1, 0);
        x.tie(1, 7);
        x.spring();
        x.shut(1, true);
        x.mark(2, 1);
        x.mark(4, 2);
        Told.rewrite(x, "H12H34S109P1567");
        return x;
    }

    /** All is full: HOUSES, STREAMS, PIECES, OWNERS, ACTS, MARKS, SLOTS, THE TEXT (which has a FAULT by now). */
    private static FurnitureByFlood full() {
        FurnitureByFlood x = Told.town("H09H09H09H19H29H39" + "S014S023S101S121S232S345S451S502S413S243"
            + "P0110P1225P2130P3110P4112P5999");
        for (int i = 1; i <= 10; i++) {
            x.carry(0, i % 6);
            x.tie(1, i % 10);
            x.spring();
        }
        x.keep(1);
        x.hour(4);
        x.hour(6);
        x.shut(3, true);
        x.keep(0);
        x.carry(4, 0);
        x.hour(2);
        for (int i = 1; i <= 8; i++) {
            x.mark(1 + i / 2, i % 4);
        }
        x.write(8, 0x4841434834365331L);
        return x;
    }

    // ---- how they are asked

    private static int[] beyond(int first, int last) {
        List<Integer> all = new ArrayList<>(List.of(first - 1, last + 1));
        for (int far : FAR) {
            if (far < first || far > last) {
                all.add(far);
            }
        }
        return all.stream().mapToInt(i -> i).toArray();
    }

    private int[] noHouses() {
        return beyond(0, state.houses - 1);
    }

    private int[] noStreams() {
        return beyond(0, state.streams - 1);
    }

    private int[] noPieces() {
        return beyond(0, state.pieces - 1);
    }

    private static int[] noLevels() {
        return beyond(0, 19);
    }

    private static int[] noHours() {
        return beyond(1, 9);
    }

    private void refused(String call, int why, Call asked) {
        String told = state.name + ": " + call;
        FurnitureByFlood x = state.made.get();
        Check.due(told, asked.on(x), why);
        Twins.alike(told, x, state.made.get());
    }

    private boolean hasHouses() {
        return state.houses > 0;
    }

    private boolean hasPieces() {
        return state.pieces > 0;
    }

    // ---- promises 2 to 13

    private void ofTheTown() {
        for (int n : beyond(1, 8)) {
            refused("2 write(" + n + ", 72)", BAD, x -> x.write(n, 72));
            refused("2 write(" + n + ", -1)", BAD, x -> x.write(n, -1L));
        }
        for (int what : beyond(0, 8)) {
            refused("6 about(" + what + ")", BAD, x -> x.about(what));
        }
        for (int house : noHouses()) {
            refused("7 house(" + house + ", 2)", UNKNOWN, x -> x.house(house, 2));
            refused("7 house(" + house + ", 9): UNKNOWN ahead of BAD", UNKNOWN, x -> x.house(house, 9));
        }
        for (int stream : noStreams()) {
            refused("8 stream(" + stream + ", 3)", UNKNOWN, x -> x.stream(stream, 3));
            refused("8 stream(" + stream + ", 4): UNKNOWN ahead of BAD", UNKNOWN, x -> x.stream(stream, 4));
            refused("13 shut(" + stream + ", true)", UNKNOWN, x -> x.shut(stream, true));
            refused("13 shut(" + stream + ", false)", UNKNOWN, x -> x.shut(stream, false));
        }
        for (int piece : noPieces()) {
            refused("9 piece(" + piece + ", 0)", UNKNOWN, x -> x.piece(piece, 0));
            refused("9 piece(" + piece + ", 6): UNKNOWN ahead of BAD", UNKNOWN, x -> x.piece(piece, 6));
            refused("10 owner(" + piece + ", 0)", UNKNOWN, x -> x.owner(piece, 0));
            refused("10 owner(" + piece + ", -1): UNKNOWN ahead of NONE", UNKNOWN, x -> x.owner(piece, -1));
            refused("11 tie(" + piece + ", 5)", UNKNOWN, x -> x.tie(piece, 5));
            refused("11 tie(" + piece + ", 10): UNKNOWN ahead of BAD", UNKNOWN, x -> x.tie(piece, 10));
            refused("12 carry(" + piece + ", 0): piece", UNKNOWN, x -> x.carry(piece, 0));
            refused("12 carry(" + piece + ", 6): both", UNKNOWN, x -> x.carry(piece, 6));
        }
    }

    private void ofTheTownByTwo() {
        for (int what : beyond(0, 3)) {
            if (hasHouses()) {
                refused("7 house(0, " + what + ")", BAD, x -> x.house(0, what));
            }
            if (state.streams > 0) {
                refused("8 stream(0, " + what + ")", BAD, x -> x.stream(0, what));
            }
        }
        for (int last = state.pieces - 1; hasPieces() && last >= 0; last -= state.pieces - 1) {
            int piece = last;
            for (int what : beyond(0, 5)) {
                refused("9 piece(" + piece + ", " + what + ")", BAD, x -> x.piece(piece, what));
            }
            for (int tie : beyond(0, 9)) {
                refused("11 tie(" + piece + ", " + tie + ")", BAD, x -> x.tie(piece, tie));
            }
            for (int house : noHouses()) {
                refused("12 carry(" + piece + ", " + house + "): house", UNKNOWN, x -> x.carry(piece, house));
            }
            for (int i : beyond(0, 7)) {
                refused("10 owner(" + piece + ", " + i + ")", FurnitureByFlood.NONE, x -> x.owner(piece, i));
            }
        }
    }

    // ---- promises 14 to 19

    private void ofFloods() {
        for (int level : noLevels()) {
            refused("15 hour(" + level + ")", BAD, x -> x.hour(level));
            refused("16 jams(" + level + ")", BAD, x -> x.jams(level));
            if (hasHouses()) {
                refused("14 deep(0, " + level + ")", BAD, x -> x.deep(0, level));
            }
            if (hasPieces()) {
                refused("19 after(0, " + level + ", 1)", BAD, x -> x.after(0, level, 1));
                refused("19 after(0, " + level + ", 0)", BAD, x -> x.after(0, level, 0));
            }
        }
        for (int n : noHours()) {
            if (hasPieces()) {
                refused("19 after(0, 9, " + n + ")", BAD, x -> x.after(0, 9, n));
            }
        }
        for (int house : noHouses()) {
            refused("14 deep(" + house + ", 9)", UNKNOWN, x -> x.deep(house, 9));
            refused("14 deep(" + house + ", 20): UNKNOWN ahead of BAD", UNKNOWN, x -> x.deep(house, 20));
        }
        for (int piece : noPieces()) {
            refused("19 after(" + piece + ", 9, 1)", UNKNOWN, x -> x.after(piece, 9, 1));
            refused("19 after(" + piece + ", -1, 1): UNKNOWN ahead of BAD", UNKNOWN, x -> x.after(piece, -1, 1));
            refused("19 after(" + piece + ", 9, 10): UNKNOWN ahead of BAD", UNKNOWN, x -> x.after(piece, 9, 10));
        }
    }

    // ---- promises 20 and 21

    private void ofTiesAndDowries() {
        int all = (1 << state.pieces) - 1;
        for (int i = 0; i < 2; i++) {
            boolean who = i == 1;
            for (int pieces : beyond(0, all)) {
                refused("20 ties(" + pieces + ", 9, 1, " + who + ")", BAD, x -> x.ties(pieces, 9, 1, who));
            }
            for (int level : noLevels()) {
                refused("20 ties(" + all + ", " + level + ", 1, " + who + ")", BAD, x -> x.ties(all, level, 1, who));
            }
            for (int n : noHours()) {
                refused("20 ties(" + all + ", 9, " + n + ", " + who + ")", BAD, x -> x.ties(all, 9, n, who));
            }
        }
        for (int piece : noPieces()) {
            refused("21 dowry(" + piece + ", 9, 1, 0): piece", UNKNOWN, x -> x.dowry(piece, 9, 1, 0));
            refused("21 dowry(" + piece + ", 20, 0, 0): UNKNOWN ahead of BAD", UNKNOWN,
                x -> x.dowry(piece, 20, 0, 0));
        }
        for (int house : noHouses()) {
            refused("21 dowry(0, 9, 1, " + house + "): house", UNKNOWN, x -> x.dowry(0, 9, 1, house));
            refused("21 dowry(0, 20, 1, " + house + "): UNKNOWN ahead of BAD", UNKNOWN,
                x -> x.dowry(0, 20, 1, house));
            refused("21 dowry(0, 9, 0, " + house + "): UNKNOWN ahead of BAD", UNKNOWN, x -> x.dowry(0, 9, 0, house));
        }
        for (int level : hasPieces() ? noLevels() : new int[0]) {
            refused("21 dowry(0, " + level + ", 1, 0)", BAD, x -> x.dowry(0, level, 1, 0));
        }
        for (int n : hasPieces() ? noHours() : new int[0]) {
            refused("21 dowry(0, 9, " + n + ", 0)", BAD, x -> x.dowry(0, 9, n, 0));
        }
    }

    // ---- promises 22 to 24

    private void ofShutsAndChances() {
        for (int house : noHouses()) {
            refused("22 toShut(" + house + ", 9, 1)", UNKNOWN, x -> x.toShut(house, 9, 1));
            refused("22 toShut(" + house + ", -1, 0): UNKNOWN ahead of BAD", UNKNOWN, x -> x.toShut(house, -1, 0));
            refused("23 drawn(0, 9, 1, " + house + ", true): house", UNKNOWN, x -> x.drawn(0, 9, 1, house, true));
            refused("23 drawn(0, 20, 0, " + house + ", true): UNKNOWN ahead of BAD", UNKNOWN,
                x -> x.drawn(0, 20, 0, house, true));
        }
        for (int piece : noPieces()) {
            refused("23 drawn(" + piece + ", 9, 1, 0, false): piece", UNKNOWN, x -> x.drawn(piece, 9, 1, 0, false));
            refused("23 drawn(" + piece + ", -1, 10, 0, false): UNKNOWN ahead of BAD", UNKNOWN,
                x -> x.drawn(piece, -1, 10, 0, false));
            refused("24 goesFrom(" + piece + ")", UNKNOWN, x -> x.goesFrom(piece));
        }
        for (int level : noLevels()) {
            if (hasHouses()) {
                refused("22 toShut(0, " + level + ", 1)", BAD, x -> x.toShut(0, level, 1));
            }
            if (hasPieces()) {
                refused("23 drawn(0, " + level + ", 1, 0, true)", BAD, x -> x.drawn(0, level, 1, 0, true));
                refused("23 drawn(0, " + level + ", 1, 0, false)", BAD, x -> x.drawn(0, level, 1, 0, false));
            }
        }
        for (int n : noHours()) {
            if (hasHouses()) {
                refused("22 toShut(0, 9, " + n + ")", BAD, x -> x.toShut(0, 9, n));
            }
            if (hasPieces()) {
                refused("23 drawn(0, 9, " + n + ", 0, true)", BAD, x -> x.drawn(0, 9, n, 0, true));
                refused("23 drawn(0, 9, " + n + ", 0, false)", BAD, x -> x.drawn(0, 9, n, 0, false));
            }
        }
    }

    // ---- promises 25 to 30

    private void ofMarksAndSlots() {
        for (int house : noHouses()) {
            refused("25 mark(3, " + house + "): UNKNOWN, also ahead of FULL", UNKNOWN, x -> x.mark(3, house));
            refused("25 mark(0, " + house + "): UNKNOWN ahead of BAD", UNKNOWN, x -> x.mark(0, house));
            refused("27 rows(3, " + house + ")", UNKNOWN, x -> x.rows(3, house));
            refused("27 rows(10, " + house + "): UNKNOWN ahead of BAD", UNKNOWN, x -> x.rows(10, house));
            refused("28 ends(3, " + house + ")", UNKNOWN, x -> x.ends(3, house));
            refused("28 ends(-1, " + house + "): UNKNOWN ahead of BAD", UNKNOWN, x -> x.ends(-1, house));
        }
        if (hasHouses()) {
            for (int spring : beyond(1, 9)) {
                refused("25 mark(" + spring + ", 0): BAD, also ahead of FULL", BAD, x -> x.mark(spring, 0));
            }
            for (int n : beyond(0, 9)) {
                refused("27 rows(" + n + ", 0)", BAD, x -> x.rows(n, 0));
                refused("28 ends(" + n + ", 0)", BAD, x -> x.ends(n, 0));
            }
        }
        for (int slot : beyond(0, 1)) {
            refused("29 keep(" + slot + ")", UNKNOWN, x -> x.keep(slot));
            refused("30 again(" + slot + "): UNKNOWN, not LATE", UNKNOWN, x -> x.again(slot));
        }
    }

    // ---- what is only looked at

    private void unchanged(String call, Call asked) {
        FurnitureByFlood x = state.made.get();
        asked.on(x);
        Twins.alike(state.name + ": " + call, x, state.made.get());
    }

    /** "nothing is changed by that", nor by any other call that only tells. */
    private void looks() {
        unchanged("4 fault()", x -> x.fault());
        for (int what = 0; what <= 8; what++) {
            int w = what;
            unchanged("6 about(" + w + ")", x -> x.about(w));
            unchanged("7 house(0, " + w + ")", x -> x.house(0, w));
            unchanged("8 stream(0, " + w + ")", x -> x.stream(0, w));
            unchanged("9 piece(0, " + w + ")", x -> x.piece(0, w));
            unchanged("10 owner(0, " + w + ")", x -> x.owner(0, w));
            unchanged("27 rows(" + w + ", 0)", x -> x.rows(w, 0));
            unchanged("28 ends(" + w + ", 0)", x -> x.ends(w, 0));
        }
        int all = (1 << state.pieces) - 1;
        for (int level = 0; level <= 19; level++) {
            int l = level;
            int n = 1 + level % 9;
            unchanged("14 deep(0, " + l + ")", x -> x.deep(0, l));
            unchanged("16 jams(" + l + ")", x -> x.jams(l));
            unchanged("20 ties(" + all + ", " + l + ", " + n + ", true)", x -> x.ties(all, l, n, true));
            unchanged("20 ties(" + all + ", " + l + ", " + n + ", false)", x -> x.ties(all, l, n, false));
            for (int i = 0; i < Math.max(1, state.houses); i++) {
                int house = i;
                unchanged("22 toShut(" + i + ", " + l + ", " + n + ")", x -> x.toShut(house, l, n));
            }
            for (int i = 0; i < Math.max(1, state.pieces); i++) {
                int piece = i;
                unchanged("19 after(" + i + ", " + l + ", " + n + ")", x -> x.after(piece, l, n));
                unchanged("21 dowry(" + i + ", " + l + ", " + n + ", 0)", x -> x.dowry(piece, l, n, 0));
                unchanged("23 drawn(" + i + ", " + l + ", " + n + ", 0, true)",
                    x -> x.drawn(piece, l, n, 0, true));
                unchanged("24 goesFrom(" + i + ")", x -> x.goesFrom(piece));
            }
        }
    }

    // ---- late and full

    private static void late() {
        RefusalsTest unread = new RefusalsTest(new State("text not at its end", 3, 3, 2, () -> {
            FurnitureByFlood x = begun();
            x.write(2, 0x5030);
            return x;
        }));
        unread.refused("5 town()", LATE, x -> x.town());
        RefusalsTest wrong = new RefusalsTest(new State("text with a FAULT", 3, 3, 2, () -> {
            FurnitureByFlood x = begun();
            x.write(3, 0x483130);
            return x;
        }));
        wrong.refused("5 town()", LATE, x -> x.town());
        RefusalsTest filled = new RefusalsTest(new State("full", 6, 10, 6, RefusalsTest::full));
        filled.refused("5 town()", LATE, x -> x.town());
        RefusalsTest noActs = new RefusalsTest(new State("no acts", 3, 3, 2, () -> {
            FurnitureByFlood x = begun();
            x.undo();
            x.undo();
            x.carry(0, 2);
            x.tie(0, 6);
            return x;
        }));
        noActs.refused("18 undo()", LATE, x -> x.undo());
        RefusalsTest fresh = new RefusalsTest(new State("new", 0, 0, 0, FurnitureByFlood::new));
        fresh.refused("18 undo()", LATE, x -> x.undo());
        fresh.refused("30 again(0)", LATE, x -> x.again(0));
        fresh.refused("30 again(1)", LATE, x -> x.again(1));
        RefusalsTest oneKept = new RefusalsTest(new State("one kept", 3, 3, 2, RefusalsTest::begun));
        oneKept.refused("30 again(1)", LATE, x -> x.again(1));
        lateBehindTown();
    }

    private static void lateBehindTown() {
        RefusalsTest gone = new RefusalsTest(new State("behind town()", 2, 1, 1, () -> {
            FurnitureByFlood x = begun();
            x.keep(1);
            x.town();
            return x;
        }));
        gone.refused("18 undo()", LATE, x -> x.undo());
        gone.refused("30 again(0)", LATE, x -> x.again(0));
        gone.refused("30 again(1)", LATE, x -> x.again(1));
    }

    private static void fullText() {
        for (int free = 0; free < 8; free++) {
            int left = free;
            RefusalsTest test = new RefusalsTest(new State("text with room for " + left, 3, 3, 2, () -> {
                FurnitureByFlood x = begun();
                while (x.about(8) < 96 - left) {
                    x.write(1, 72);
                }
                return x;
            }));
            for (int more = left + 1; more <= 8; more++) {
                int n = more;
                test.refused("2 write(" + n + ", -1)", FULL, x -> x.write(n, -1L));
            }
            for (int n : beyond(1, 8)) {
                test.refused("2 write(" + n + ", 72): BAD ahead of FULL", BAD, x -> x.write(n, 72));
            }
        }
    }

    private static void fullMarks() {
        RefusalsTest test = new RefusalsTest(new State("full", 6, 10, 6, RefusalsTest::full));
        for (int spring = 1; spring <= 9; spring++) {
            for (int house = 0; house < 6; house++) {
                int s = spring;
                int h = house;
                test.refused("25 mark(" + s + ", " + h + ")", FULL, x -> x.mark(s, h));
            }
        }
    }
}
