import java.util.ArrayList;
import java.util.List;

/**
 * Whether a call changed nothing: of two objects of one history one takes the call, then both are looked at and
 * played to their end alike, so that also what can not be looked at (ACTS, SLOTS, THE TEXT) comes to light.
 */
final class Twins {
    private Twins() {
    }

    static void alike(String call, FurnitureByFlood asked, FurnitureByFlood left) {
        List<Long> a = toTheEnd(asked);
        List<Long> b = toTheEnd(left);
        int unlike = 0;
        while (unlike < Math.min(a.size(), b.size()) && a.get(unlike).equals(b.get(unlike))) {
            unlike++;
        }
        boolean are = a.size() == b.size() && unlike == a.size();
        Check.holds(call + " changes nothing, but for answer " + unlike + " behind it", are);
    }

    /** The first ways to an end spoil nothing for the later ones. Some 300 calls for the fullest object. */
    private static List<Long> toTheEnd(FurnitureByFlood x) {
        List<Long> seen = new ArrayList<>();
        look(x, seen);
        for (int act = 0; act <= 12; act++) {
            seen.add((long) x.undo());
            lookAtActs(x, seen);
        }
        for (int slot = 0; slot < 2; slot++) {
            seen.add((long) x.again(slot));
            look(x, seen);
        }
        lookAtText(x, seen);
        return seen;
    }

    private static void look(FurnitureByFlood x, List<Long> seen) {
        for (int what = 0; what <= 8; what++) {
            seen.add((long) x.about(what));
        }
        for (int piece = 0; piece < x.about(2); piece++) {
            seen.add((long) x.piece(piece, 0));
            seen.add((long) x.piece(piece, 3));
            seen.add((long) x.piece(piece, 5));
            for (int i = 0; i < 8 && piece < 2; i++) {
                seen.add((long) x.owner(piece, i));
            }
        }
        for (int stream = 0; stream < x.about(1); stream++) {
            seen.add((long) x.stream(stream, 3));
        }
        for (int n = 1; n <= 9; n += 2) {
            seen.add(x.rows(n, 0));
        }
    }

    private static void lookAtActs(FurnitureByFlood x, List<Long> seen) {
        seen.add((long) x.about(3));
        for (int piece = 0; piece < 2; piece++) {
            seen.add((long) x.piece(piece, 0));
            seen.add((long) x.piece(piece, 3));
            seen.add((long) x.piece(piece, 5));
        }
    }

    /** Of a TEXT with a FAULT no more is seen than the FAULT; of one without all that is told. */
    private static void lookAtText(FurnitureByFlood x, List<Long> seen) {
        seen.add((long) x.fault());
        seen.add((long) x.town());
        for (int house = 0; house < x.about(0); house++) {
            seen.add((long) x.house(house, 0));
            seen.add((long) x.house(house, 1));
        }
        for (int stream = 0; stream < x.about(1); stream++) {
            seen.add((long) x.stream(stream, 2));
        }
        for (int piece = 0; piece < x.about(2); piece++) {
            seen.add((long) x.piece(piece, 1));
            seen.add((long) x.piece(piece, 3));
        }
        seen.add((long) x.unmark());
        seen.add((long) x.wipe());
    }
}
