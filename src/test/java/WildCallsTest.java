import java.util.Random;

/**
 * Calls with any numbers, in any state, also beyond the 512th: none may throw or fail to end. What they answer is
 * looked at elsewhere. The seeds are fixed, so all runs are alike.
 */
public final class WildCallsTest {
    private static final int OBJECTS = 150;
    private static final int CALLS = 1500;
    private static final String[] TOWNS = {"", "H09", "H09H19S019S109P0110P1995",
        "H09H09H09H19H29H39S014S023S101S121S232S345S451S502S413S243P0110P1225P2130P3110P4112P5999"};

    private final Random random;
    private final FurnitureByFlood x = new FurnitureByFlood();

    private WildCallsTest(int seed) {
        random = new Random(seed);
    }

    public static void main(String[] args) {
        for (int seed = 0; seed < OBJECTS; seed++) {
            WildCallsTest test = new WildCallsTest(seed);
            Told.write(test.x, TOWNS[seed % TOWNS.length]);
            test.x.town();
            for (int call = 0; call < CALLS; call++) {
                test.wild(call);
            }
        }
        Check.end();
    }

    private int any() {
        return switch (random.nextInt(8)) {
            case 0 -> random.nextInt();
            case 1 -> Integer.MIN_VALUE >> random.nextInt(32);
            case 2 -> 1 << random.nextInt(32);
            case 3 -> (1 << random.nextInt(32)) - 1;
            case 4 -> random.nextInt(70) - 3;
            default -> random.nextInt(11) - 1;
        };
    }

    private void wild(int call) {
        int which = random.nextInt(29);
        long told;
        try {
            told = which < 14 ? ofTheTown(which) : which < 18 ? ofFloods(which) : ofTheRest(which);
        } catch (RuntimeException | Error thrown) {
            System.out.println("call " + call + ", kind " + which + " threw " + thrown);
            told = Long.MIN_VALUE;
        }
        Check.holds("call " + call + ", kind " + which + " answers, and not below NONE", told >= -9);
    }

    private long ofTheTown(int which) {
        return switch (which) {
            case 0 -> x.write(any(), random.nextLong());
            case 1 -> random.nextInt(20) == 0 ? x.wipe() : x.write(1, "HSP0123456789".charAt(random.nextInt(13)));
            case 2 -> x.fault();
            case 3 -> random.nextInt(20) == 0 ? x.town() : x.about(any());
            case 4 -> x.about(any());
            case 5 -> x.house(any(), any());
            case 6 -> x.stream(any(), any());
            case 7 -> x.piece(any(), any());
            case 8 -> x.owner(any(), any());
            case 9 -> x.tie(any(), any());
            case 10 -> x.carry(any(), any());
            case 11 -> x.shut(any(), random.nextBoolean());
            case 12 -> x.deep(any(), any());
            default -> x.jams(any());
        };
    }

    private long ofFloods(int which) {
        return switch (which) {
            case 14 -> x.hour(any());
            case 15 -> x.spring();
            case 16 -> x.undo();
            default -> x.after(any(), any(), any());
        };
    }

    private long ofTheRest(int which) {
        return switch (which) {
            case 18 -> x.ties(any(), any(), any(), random.nextBoolean());
            case 19 -> x.dowry(any(), any(), any(), any());
            case 20 -> x.toShut(any(), any(), any());
            case 21 -> x.drawn(any(), any(), any(), any(), random.nextBoolean());
            case 22 -> x.goesFrom(any());
            case 23 -> x.mark(any(), any());
            case 24 -> random.nextInt(20) == 0 ? x.unmark() : x.rows(any(), any());
            case 25 -> x.rows(any(), any());
            case 26 -> x.ends(any(), any());
            case 27 -> x.keep(any());
            default -> x.again(any());
        };
    }
}
