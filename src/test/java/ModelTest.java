import java.util.Random;

/** Long rows of calls, each answered by the class and by the model; the seeds are fixed, so all runs are alike. */
public final class ModelTest {
    private static final int TOWNS = 1500;
    private static final int FAULTS = 3000;
    /** An object is used for 512 calls at most; so many are left free for a new town and a last look at all. */
    private static final int CALLS = 512 - 110 - 100;

    private final Random random;
    private final String seed;
    private FurnitureByFlood x = new FurnitureByFlood();
    private Model y = new Model();
    private int calls = 0;

    private ModelTest(int seed) {
        this.random = new Random(seed);
        this.seed = "seed " + seed + ": ";
    }

    public static void main(String[] args) {
        for (int seed = 0; seed < TOWNS; seed++) {
            new ModelTest(seed).townAndCalls();
        }
        new ModelTest(-1).faults();
        Check.end();
    }

    private void townAndCalls() {
        for (int i = 0; i < 5; i++) {
            anyCall(random.nextInt(30));
        }
        tell(anyTown());
        due("town()", x.town(), y.town());
        while (calls < CALLS) {
            if (random.nextInt(150) == 0) {
                tell(anyTown());
                due("town()", x.town(), y.town());
            } else {
                anyCall(random.nextInt(30));
            }
        }
        lookAtAll();
    }

    /** Texts that are towns but for a byte or two, or for their end. */
    private void faults() {
        for (int i = 0; i < FAULTS; i++) {
            StringBuilder text = new StringBuilder(anyTown());
            int changes = random.nextInt(3);
            for (int c = 0; c < changes && text.length() > 0; c++) {
                int place = random.nextInt(text.length());
                switch (random.nextInt(4)) {
                    case 0 -> text.setCharAt(place, anySign());
                    case 1 -> text.insert(place, anySign());
                    case 2 -> text.deleteCharAt(place);
                    default -> text.setLength(place);
                }
            }
            if (random.nextInt(3) == 0) {
                text.append("HSPX".charAt(random.nextInt(4)));
            }
            if (text.length() > 96) {
                text.setLength(96);
            }
            x = new FurnitureByFlood();
            y = new Model();
            tell(text.toString());
            due("fault() of " + text, x.fault(), y.fault());
            due("town() of " + text, x.town(), y.town());
        }
    }

    private char anySign() {
        String signs = "HSP0123456789012345";
        return random.nextInt(20) == 0 ? (char) random.nextInt(256) : signs.charAt(random.nextInt(signs.length()));
    }

    /** A town by the rules; now and then all that can be told is told, in any order. */
    private String anyTown() {
        StringBuilder text = new StringBuilder();
        int houses = 0;
        int streams = 0;
        int pieces = 0;
        int[] left = {10, 10, 10, 10, 10, 10};
        boolean[][] joined = new boolean[6][6];
        int most = random.nextInt(8) == 0 ? 0 : 12 + random.nextInt(60);
        boolean isLow = random.nextInt(3) > 0;
        int mostTenths = random.nextBoolean() ? 9 : 5;
        for (int i = 0; i < most; i++) {
            int kind = random.nextInt(10);
            if (kind < 3 && houses < 6) {
                text.append('H').append(random.nextInt(isLow ? 4 : 10)).append(1 + random.nextInt(9));
                houses++;
            } else if (kind < 7 && houses > 1 && streams < 10) {
                int a = random.nextInt(houses);
                int b = random.nextInt(houses);
                int t = 1 + random.nextInt(mostTenths);
                if (a != b && !joined[a][b] && t <= left[a]) {
                    joined[a][b] = true;
                    left[a] -= t;
                    streams++;
                    text.append('S').append(a).append(b).append(t);
                }
            } else if (kind >= 7 && houses > 0 && pieces < 6) {
                text.append('P').append(random.nextInt(houses)).append(1 + random.nextInt(isLow ? 4 : 9))
                    .append(1 + random.nextInt(isLow ? 3 : 9)).append(random.nextInt(2) * random.nextInt(10));
                pieces++;
            }
        }
        return text.toString();
    }

    private void tell(String text) {
        due("wipe()", x.wipe(), y.wipe());
        int place = 0;
        while (place < text.length()) {
            int n = Math.min(1 + random.nextInt(8), text.length() - place);
            long v = random.nextLong();
            for (int i = 0; i < n; i++) {
                v = v << 8 | text.charAt(place + i);
            }
            place += n;
            due("write(" + n + ", " + v + ")", x.write(n, v), y.write(n, v));
        }
    }

    /** A number of a row, mostly one that there is. */
    private int any(int length) {
        int which = random.nextInt(60);
        if (which == 0) {
            return -1;
        }
        if (which == 1) {
            return length;
        }
        if (which == 2) {
            return random.nextInt();
        }
        return random.nextInt(Math.max(1, length));
    }

    private int anyHouse() {
        return any(y.about(0));
    }

    private int anyStream() {
        return any(y.about(1));
    }

    private int anyPiece() {
        return any(y.about(2));
    }

    private int anyLevel() {
        return random.nextBoolean() ? any(20) : any(10);
    }

    private int anyHours() {
        return 1 + any(9);
    }

    private void due(String call, long got, long want) {
        calls++;
        Check.due(seed + call, got, want);
    }

    private void anyCall(int which) {
        if (which < 12) {
            townCall(which);
        } else if (which < 18) {
            floodCall(which);
        } else if (which < 23) {
            planCall(which);
        } else {
            lastCall(which);
        }
    }

    private void townCall(int which) {
        int piece = anyPiece();
        int house = anyHouse();
        int stream = anyStream();
        int what = any(9);
        boolean is = random.nextBoolean();
        long v = random.nextLong();
        switch (which) {
            case 0 -> due("write(" + what + ", " + v + ")", x.write(what, v), y.write(what, v));
            case 1 -> due("fault()", x.fault(), y.fault());
            case 2 -> due("about(" + what + ")", x.about(what), y.about(what));
            case 3 -> due("house(" + house + ", " + what + ")", x.house(house, what), y.house(house, what));
            case 4 -> due("stream(" + stream + ", " + what + ")", x.stream(stream, what), y.stream(stream, what));
            case 5 -> due("piece(" + piece + ", " + what + ")", x.piece(piece, what), y.piece(piece, what));
            case 6 -> due("owner(" + piece + ", " + what + ")", x.owner(piece, what), y.owner(piece, what));
            case 7, 8 -> due("tie(" + piece + ", " + what + ")", x.tie(piece, what), y.tie(piece, what));
            case 9, 10 -> due("carry(" + piece + ", " + house + ")", x.carry(piece, house), y.carry(piece, house));
            default -> due("shut(" + stream + ", " + is + ")", x.shut(stream, is), y.shut(stream, is));
        }
    }

    private void floodCall(int which) {
        int piece = anyPiece();
        int house = anyHouse();
        int level = anyLevel();
        int n = anyHours();
        switch (which) {
            case 12 -> due("deep(" + house + ", " + level + ")", x.deep(house, level), y.deep(house, level));
            case 13 -> due("hour(" + level + ")", x.hour(level), y.hour(level));
            case 14 -> due("jams(" + level + ")", x.jams(level), y.jams(level));
            case 15 -> due("spring()", x.spring(), y.spring());
            case 16 -> due("undo()", x.undo(), y.undo());
            default -> due("after(" + piece + ", " + level + ", " + n + ")",
                x.after(piece, level, n), y.after(piece, level, n));
        }
        if (which == 13 || which == 15 || which == 16) {
            lookAtSome();
        }
    }

    private void planCall(int which) {
        int piece = anyPiece();
        int pieces = any(1 << y.about(2));
        int house = anyHouse();
        int level = anyLevel();
        int n = anyHours();
        boolean is = random.nextBoolean();
        switch (which) {
            case 18 -> due("ties(" + pieces + ", " + level + ", " + n + ", " + is + ")",
                x.ties(pieces, level, n, is), y.ties(pieces, level, n, is));
            case 19 -> due("dowry(" + piece + ", " + level + ", " + n + ", " + house + ")",
                x.dowry(piece, level, n, house), y.dowry(piece, level, n, house));
            case 20 -> due("toShut(" + house + ", " + level + ", " + n + ")",
                x.toShut(house, level, n), y.toShut(house, level, n));
            case 21 -> due("drawn(" + piece + ", " + level + ", " + n + ", " + house + ", " + is + ")",
                x.drawn(piece, level, n, house, is), y.drawn(piece, level, n, house, is));
            default -> due("goesFrom(" + piece + ")", x.goesFrom(piece), y.goesFrom(piece));
        }
    }

    private void lastCall(int which) {
        int spring = 1 + any(9);
        int n = any(10);
        int house = anyHouse();
        int slot = any(2);
        switch (which) {
            case 23 -> due("mark(" + spring + ", " + house + ")", x.mark(spring, house), y.mark(spring, house));
            case 24 -> {
                if (random.nextInt(4) == 0) {
                    due("unmark()", x.unmark(), y.unmark());
                }
            }
            case 25 -> due("rows(" + n + ", " + house + ")", x.rows(n, house), y.rows(n, house));
            case 26, 27 -> due("ends(" + n + ", " + house + ")", x.ends(n, house), y.ends(n, house));
            case 28 -> due("keep(" + slot + ")", x.keep(slot), y.keep(slot));
            default -> {
                due("again(" + slot + ")", x.again(slot), y.again(slot));
                lookAtSome();
            }
        }
    }

    /** Some of what a flood or a spring may have changed, so that a slip is told near where it is made. */
    private void lookAtSome() {
        int piece = anyPiece();
        int what = 3 + random.nextInt(4);
        due("about(" + what + ")", x.about(what), y.about(what));
        for (int of : new int[] {0, 3, 5}) {
            due("piece(" + piece + ", " + of + ")", x.piece(piece, of), y.piece(piece, of));
        }
    }

    /** All that can be looked at. */
    private void lookAtAll() {
        for (int what = 0; what < 9; what++) {
            due("about(" + what + ")", x.about(what), y.about(what));
        }
        for (int piece = 0; piece < y.about(2); piece++) {
            for (int what = 0; what < 6; what++) {
                due("piece(" + piece + ", " + what + ")", x.piece(piece, what), y.piece(piece, what));
            }
            for (int i = 0; i < 9; i++) {
                due("owner(" + piece + ", " + i + ")", x.owner(piece, i), y.owner(piece, i));
            }
        }
        for (int stream = 0; stream < y.about(1); stream++) {
            due("stream(" + stream + ", 3)", x.stream(stream, 3), y.stream(stream, 3));
        }
    }
}
