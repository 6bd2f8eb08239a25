import java.math.BigInteger;
import java.util.ArrayDeque;
import java.util.ArrayList;
import java.util.Arrays;
import java.util.HashMap;
import java.util.List;
import java.util.Map;
import java.util.regex.Matcher;
import java.util.regex.Pattern;

/**
 * The document once more, as plainly as the Java library lets one write it and with no thought of cost: what
 * can be tried out is tried out. It shares no way of reckoning with the class, so that one shows the other's slips.
 */
final class Model {
    private static final int UNKNOWN = -1, BAD = -2, LATE = -3, FULL = -4, NONE = -9;
    private static final Pattern PART = Pattern.compile(
        "H([0-9])([1-9])|S([0-9])([0-9])([1-9])|P([0-9])([1-9])([1-9])([0-9])");
    private static final Map<String, Boolean> CAN_BECOME = new HashMap<>();

    record House(int height, int door) {
    }

    record Stream(int from, int to, int tenths) {
    }

    record Piece(int home, int width, int floats, int tie) {
    }

    record Town(List<House> houses, List<Stream> streams, List<Piece> pieces) {
    }

    record Mark(int spring, int house) {
    }

    /** What an act changes; a copy is never changed. */
    record Snap(int[] at, int[] tied, List<List<Integer>> owners, int springs) {
    }

    record Kept(Snap snap, boolean[] shut) {
    }

    /** What comes of an hour. */
    record Outcome(int[] at, int[] tied, int went, int jammed) {
    }

    private String text = "";
    private Town town = new Town(List.of(), List.of(), List.of());
    private int[] at = {};
    private int[] tied = {};
    private List<List<Integer>> owners = new ArrayList<>();
    private int springs = 0;
    private boolean[] shut = {};
    private final ArrayDeque<Snap> acts = new ArrayDeque<>();
    private final Kept[] kept = new Kept[2];
    private final List<Mark> marks = new ArrayList<>();

    // ---- the town

    int write(int n, long v) {
        if (n < 1 || n > 8) {
            return BAD;
        }
        if (text.length() + n > 96) {
            return FULL;
        }
        byte[] bytes = java.nio.ByteBuffer.allocate(8).putLong(v).array();
        for (int i = 8 - n; i < 8; i++) {
            text += (char) (bytes[i] & 0xFF);
        }
        return text.length();
    }

    int wipe() {
        int was = text.length();
        text = "";
        return was;
    }

    /** A TOWN, or null where a text is none. */
    private static Town read(String text) {
        List<House> houses = new ArrayList<>();
        List<Stream> streams = new ArrayList<>();
        List<Piece> pieces = new ArrayList<>();
        Matcher m = PART.matcher(text);
        int end = 0;
        while (end < text.length()) {
            if (!m.find(end) || m.start() != end) {
                return null;
            }
            end = m.end();
            if (m.group(1) != null) {
                houses.add(new House(number(m, 1), number(m, 2)));
            } else if (m.group(3) != null) {
                Stream told = new Stream(number(m, 3), number(m, 4), number(m, 5));
                int sum = told.tenths;
                for (Stream other : streams) {
                    sum += other.from == told.from ? other.tenths : 0;
                    if (other.from == told.from && other.to == told.to) {
                        return null;
                    }
                }
                if (told.from >= houses.size() || told.to >= houses.size() || told.from == told.to || sum > 10) {
                    return null;
                }
                streams.add(told);
            } else {
                Piece told = new Piece(number(m, 6), number(m, 7), number(m, 8), number(m, 9));
                if (told.home >= houses.size()) {
                    return null;
                }
                pieces.add(told);
            }
        }
        boolean few = houses.size() <= 6 && streams.size() <= 10 && pieces.size() <= 6;
        return few ? new Town(houses, streams, pieces) : null;
    }

    private static int number(Matcher m, int group) {
        return m.group(group).charAt(0) - '0';
    }

    /** Whether a text is a TOWN, or is one with up to so many digits more. */
    private static boolean canBecome(String text, int more) {
        if (read(text) != null) {
            return true;
        }
        for (char digit = '0'; more > 0 && digit <= '9'; digit++) {
            if (canBecome(text + digit, more - 1)) {
                return true;
            }
        }
        return false;
    }

    /** How many signs the last part wants still; what stands ahead of its letter is not looked at. */
    private static int wanted(String text) {
        for (int i = text.length() - 1; i >= 0; i--) {
            int kind = "HSP".indexOf(text.charAt(i));
            if (kind >= 0) {
                return Math.max(0, 3 + kind - (text.length() - i));
            }
        }
        return 0;
    }

    int fault() {
        for (int length = 1; length <= text.length(); length++) {
            String told = text.substring(0, length);
            if (!CAN_BECOME.computeIfAbsent(told, t -> canBecome(t, wanted(t)))) {
                return length - 1;
            }
        }
        return read(text) == null ? text.length() : NONE;
    }

    int town() {
        Town told = read(text);
        if (told == null) {
            return LATE;
        }
        town = told;
        at = told.pieces.stream().mapToInt(Piece::home).toArray();
        tied = told.pieces.stream().mapToInt(Piece::tie).toArray();
        owners = new ArrayList<>();
        for (Piece piece : told.pieces) {
            owners.add(List.of(piece.home));
        }
        springs = 0;
        shut = new boolean[told.streams.size()];
        acts.clear();
        Arrays.fill(kept, null);
        return told.houses.size();
    }

    int about(int what) {
        int notAtHome = 0;
        int notOwned = 0;
        for (int p = 0; p < at.length; p++) {
            notAtHome += at[p] != town.pieces.get(p).home ? 1 : 0;
            notOwned += lastOwner(p) != town.pieces.get(p).home ? 1 : 0;
        }
        int[] all = {town.houses.size(), town.streams.size(), town.pieces.size(), springs, acts.size(),
            notAtHome, notOwned, marks.size(), text.length()};
        return what < 0 || what >= all.length ? BAD : all[what];
    }

    int house(int house, int what) {
        if (isNot(house, town.houses.size())) {
            return UNKNOWN;
        }
        int bits = 0;
        for (int p = 0; p < at.length; p++) {
            bits += at[p] == house ? Math.pow(2, p) : 0;
        }
        int[] all = {town.houses.get(house).height, town.houses.get(house).door, bits, width(at, house)};
        return isNot(what, all.length) ? BAD : all[what];
    }

    int stream(int stream, int what) {
        if (isNot(stream, town.streams.size())) {
            return UNKNOWN;
        }
        Stream s = town.streams.get(stream);
        int[] all = {s.from, s.to, s.tenths, shut[stream] ? 1 : 0};
        return isNot(what, all.length) ? BAD : all[what];
    }

    int piece(int piece, int what) {
        if (isNot(piece, at.length)) {
            return UNKNOWN;
        }
        Piece p = town.pieces.get(piece);
        int[] all = {at[piece], p.width, p.floats, tied[piece], p.home, lastOwner(piece)};
        return isNot(what, all.length) ? BAD : all[what];
    }

    int owner(int piece, int i) {
        if (isNot(piece, at.length)) {
            return UNKNOWN;
        }
        List<Integer> all = owners.get(piece);
        return isNot(i, Math.min(8, all.size())) ? NONE : all.get(i);
    }

    int tie(int piece, int x) {
        if (isNot(piece, at.length)) {
            return UNKNOWN;
        }
        if (isNot(x, 10)) {
            return BAD;
        }
        int was = tied[piece];
        tied = tied.clone();
        tied[piece] = x;
        return was;
    }

    int carry(int piece, int house) {
        if (isNot(piece, at.length) || isNot(house, town.houses.size())) {
            return UNKNOWN;
        }
        int was = at[piece];
        at = put(piece, house);
        return was;
    }

    int shut(int stream, boolean is) {
        if (isNot(stream, town.streams.size())) {
            return UNKNOWN;
        }
        boolean was = shut[stream];
        shut = shut.clone();
        shut[stream] = is;
        return was != is ? 1 : 0;
    }

    // ---- floods

    int deep(int house, int level) {
        if (isNot(house, town.houses.size())) {
            return UNKNOWN;
        }
        return isNot(level, 20) ? BAD : depth(house, level);
    }

    int hour(int level) {
        if (isNot(level, 20)) {
            return BAD;
        }
        remember();
        Outcome o = flood(at, tied, shut, level);
        at = o.at;
        tied = o.tied;
        return o.went;
    }

    int jams(int level) {
        return isNot(level, 20) ? BAD : flood(at, tied, shut, level).jammed;
    }

    int spring() {
        remember();
        int others = 0;
        List<List<Integer>> newOwners = new ArrayList<>();
        for (int p = 0; p < at.length; p++) {
            List<Integer> all = new ArrayList<>(owners.get(p));
            if (lastOwner(p) != at[p]) {
                all.add(at[p]);
                others++;
            }
            newOwners.add(all);
        }
        owners = newOwners;
        springs++;
        return others;
    }

    int undo() {
        if (acts.isEmpty()) {
            return LATE;
        }
        takeSnap(acts.removeLast());
        return acts.size();
    }

    int after(int piece, int level, int n) {
        if (isNot(piece, at.length)) {
            return UNKNOWN;
        }
        return isNot(level, 20) || isNot(n - 1, 9) ? BAD : behind(at, tied, shut, level, n)[piece];
    }

    // ---- plans

    int ties(int pieces, int level, int n, boolean who) {
        if (isNot(pieces, (int) Math.pow(2, at.length)) || isNot(level, 20) || isNot(n - 1, 9)) {
            return BAD;
        }
        List<int[]> found = new ArrayList<>();
        for (int set = 0; set < Math.pow(2, at.length); set++) {
            int[] otherwise = tied.clone();
            int cost = 0;
            for (int p = 0; p < at.length; p++) {
                if (isIn(set, p)) {
                    otherwise[p] = Math.min(9, depth(at[p], level));
                    cost += otherwise[p];
                }
            }
            int[] then = behind(at, otherwise, shut, level, n);
            boolean allStay = true;
            for (int p = 0; p < at.length; p++) {
                allStay &= !isIn(pieces, p) || then[p] == at[p];
            }
            if (allStay) {
                found.add(new int[] {cost, set});
            }
        }
        found.sort((a, b) -> a[0] != b[0] ? Integer.compare(a[0], b[0]) : Integer.compare(a[1], b[1]));
        return found.isEmpty() ? NONE : found.get(0)[who ? 1 : 0];
    }

    int dowry(int piece, int level, int n, int house) {
        if (isNot(piece, at.length) || isNot(house, town.houses.size())) {
            return UNKNOWN;
        }
        if (isNot(level, 20) || isNot(n - 1, 9)) {
            return BAD;
        }
        int least = NONE;
        for (int h = town.houses.size() - 1; h >= 0; h--) {
            least = behind(put(piece, h), tied, shut, level, n)[piece] == house ? h : least;
        }
        return least;
    }

    int toShut(int house, int level, int n) {
        if (isNot(house, town.houses.size())) {
            return UNKNOWN;
        }
        if (isNot(level, 20) || isNot(n - 1, 9)) {
            return BAD;
        }
        int[] widths = new int[town.streams.size()];
        for (int s = 0; s < widths.length; s++) {
            boolean[] one = shut.clone();
            one[s] = true;
            widths[s] = width(behind(at, tied, one, level, n), house);
        }
        int most = Arrays.stream(widths).max().orElse(0);
        if (most <= width(behind(at, tied, shut, level, n), house)) {
            return NONE;
        }
        for (int s = 0; s < widths.length; s++) {
            if (widths[s] == most) {
                return s;
            }
        }
        return NONE;
    }

    long drawn(int piece, int level, int n, int house, boolean upper) {
        if (isNot(piece, at.length) || isNot(house, town.houses.size())) {
            return UNKNOWN;
        }
        if (isNot(level, 20) || isNot(n - 1, 9)) {
            return BAD;
        }
        BigInteger above = chance(town.pieces.get(piece).floats, at[piece], level, n, house, new HashMap<>());
        BigInteger below = BigInteger.TEN.pow(n);
        BigInteger common = above.gcd(below);
        return (upper ? above : below).divide(common).longValueExact();
    }

    /** By how many of 10 to the n-th it comes from where it is to a house. */
    private BigInteger chance(int floats, int from, int level, int n, int house, Map<String, BigInteger> known) {
        if (n == 0) {
            return from == house ? BigInteger.ONE : BigInteger.ZERO;
        }
        String key = from + ":" + n;
        if (!known.containsKey(key)) {
            BigInteger sum = BigInteger.ZERO;
            int stays = 10;
            for (int s = 0; s < shut.length; s++) {
                Stream stream = town.streams.get(s);
                if (!shut[s] && stream.from == from && depth(from, level) >= floats) {
                    stays -= stream.tenths;
                    BigInteger then = chance(floats, stream.to, level, n - 1, house, known);
                    sum = sum.add(then.multiply(BigInteger.valueOf(stream.tenths)));
                }
            }
            BigInteger then = chance(floats, from, level, n - 1, house, known);
            known.put(key, sum.add(then.multiply(BigInteger.valueOf(stays))));
        }
        return known.get(key);
    }

    int goesFrom(int piece) {
        if (isNot(piece, at.length)) {
            return UNKNOWN;
        }
        for (int level = 0; level < 20; level++) {
            Outcome o = flood(at, tied, shut, level);
            if (isIn(o.went | o.jammed, piece)) {
                return level;
            }
        }
        return NONE;
    }

    // ---- marks

    int mark(int spring, int house) {
        if (isNot(house, town.houses.size())) {
            return UNKNOWN;
        }
        if (isNot(spring - 1, 9)) {
            return BAD;
        }
        if (marks.size() == 8) {
            return FULL;
        }
        marks.add(new Mark(spring, house));
        return marks.size();
    }

    int unmark() {
        int was = marks.size();
        marks.clear();
        return was;
    }

    long rows(int n, int house) {
        if (isNot(house, town.houses.size())) {
            return UNKNOWN;
        }
        return isNot(n, 10) ? BAD : walk(0, n, house).size();
    }

    int ends(int n, int house) {
        if (isNot(house, town.houses.size())) {
            return UNKNOWN;
        }
        return isNot(n, 10) ? BAD
            : walk(0, n, house).stream().distinct().mapToInt(h -> (int) Math.pow(2, h)).sum();
    }

    /** The end of each row, once for each row. */
    private List<Integer> walk(int spring, int n, int house) {
        for (Mark mark : marks) {
            if (mark.spring == spring && mark.house != house) {
                return List.of();
            }
        }
        if (spring == n) {
            return List.of(house);
        }
        List<Integer> all = new ArrayList<>(walk(spring + 1, n, house));
        for (Stream stream : town.streams) {
            if (stream.from == house) {
                all.addAll(walk(spring + 1, n, stream.to));
            }
        }
        return all;
    }

    // ---- slots

    int keep(int slot) {
        if (isNot(slot, 2)) {
            return UNKNOWN;
        }
        kept[slot] = new Kept(snap(), shut);
        return springs;
    }

    int again(int slot) {
        if (isNot(slot, 2)) {
            return UNKNOWN;
        }
        if (kept[slot] == null) {
            return LATE;
        }
        takeSnap(kept[slot].snap);
        shut = kept[slot].shut;
        acts.clear();
        return springs;
    }

    // ---- in common; rows are never changed in place, so that copies need not be made

    private static boolean isNot(int i, int length) {
        return i < 0 || i >= length;
    }

    private static boolean isIn(int bits, int i) {
        return BigInteger.valueOf(bits).testBit(i);
    }

    private int lastOwner(int piece) {
        List<Integer> all = owners.get(piece);
        return all.get(all.size() - 1);
    }

    private Snap snap() {
        return new Snap(at, tied, owners, springs);
    }

    private void takeSnap(Snap snap) {
        at = snap.at;
        tied = snap.tied;
        owners = snap.owners;
        springs = snap.springs;
    }

    private void remember() {
        if (acts.size() == 12) {
            acts.removeFirst();
        }
        acts.addLast(snap());
    }

    private int[] put(int piece, int house) {
        int[] places = at.clone();
        places[piece] = house;
        return places;
    }

    private int width(int[] places, int house) {
        int width = 0;
        for (int p = 0; p < places.length; p++) {
            width += places[p] == house ? town.pieces.get(p).width : 0;
        }
        return width;
    }

    private int depth(int house, int level) {
        int depth = level - town.houses.get(house).height;
        return depth < 0 ? 0 : depth;
    }

    private int[] behind(int[] places, int[] ties, boolean[] isShut, int level, int n) {
        Outcome o = new Outcome(places, ties, 0, 0);
        for (int i = 0; i < n; i++) {
            o = flood(o.at, o.tied, isShut, level);
        }
        return o.at;
    }

    private Outcome flood(int[] places, int[] ties, boolean[] isShut, int level) {
        int[] newTies = ties.clone();
        List<Integer> goers = new ArrayList<>();
        for (int p = 0; p < places.length; p++) {
            int depth = depth(places[p], level);
            if (depth >= town.pieces.get(p).floats) {
                if (newTies[p] < depth) {
                    newTies[p] = 0;
                }
                if (newTies[p] == 0) {
                    goers.add(p);
                }
            }
        }
        int[] newPlaces = places.clone();
        int[] room = town.houses.stream().mapToInt(House::door).toArray();
        int went = 0;
        int jammed = 0;
        for (int p : goers) {
            Stream by = strongest(places[p], isShut);
            int width = town.pieces.get(p).width;
            if (by != null && width <= room[by.from] && width <= room[by.to]) {
                room[by.from] -= width;
                room[by.to] -= width;
                newPlaces[p] = by.to;
                went += Math.pow(2, p);
            } else if (by != null) {
                jammed += Math.pow(2, p);
            }
        }
        return new Outcome(newPlaces, newTies, went, jammed);
    }

    private Stream strongest(int house, boolean[] isShut) {
        for (int tenths = 9; tenths >= 1; tenths--) {
            for (int s = 0; s < isShut.length; s++) {
                Stream stream = town.streams.get(s);
                if (stream.from == house && stream.tenths == tenths && !isShut[s]) {
                    return stream;
                }
            }
        }
        return null;
    }
}
