/**
 * Furniture by flood: a town of houses, streams and furniture is told as a text; hours of flood
 * carry the furniture from house to house, springs make it theirs whose it came to.
 */
public final class FurnitureByFlood {
    public static final int UNKNOWN = -1, BAD = -2, LATE = -3, FULL = -4, NONE = -9;

    private static final int MOST_BYTES = 96;
    private static final int MOST_AT_ONCE = 8;
    private static final int MOST_HOUSES = 6;
    private static final int MOST_STREAMS = 10;
    private static final int MOST_PIECES = 6;
    private static final int MOST_OWNERS = 8;
    private static final int MOST_ACTS = 12;
    private static final int MOST_MARKS = 8;
    private static final int MOST_HOURS = 9;
    private static final int MOST_SPRINGS = 9;
    private static final int TOP_LEVEL = 19;
    private static final int TOP_TIE = 9;
    private static final int TENTHS = 10;
    private static final int SLOTS = 2;

    private final Letters letters = new Letters();
    private final Reader reader = new Reader();
    private final Acts acts = new Acts();
    private final Marks marks = new Marks();
    private final Trial trial = new Trial();
    private final Spread spread = new Spread();
    private final Stand now = new Stand();
    private final Stand[] kept = new Stand[SLOTS];
    private final boolean[] isKept = new boolean[SLOTS];
    /** The TOWN as it stands; the other plan is there to be read into. */
    private Plan plan = new Plan();
    private Plan draft = new Plan();

    public FurnitureByFlood() {
        for (int slot = 0; slot < SLOTS; slot++) {
            kept[slot] = new Stand();
        }
    }

    // ---- the town

    public int write(int n, long v) {
        if (n < 1 || n > MOST_AT_ONCE) {
            return BAD;
        }
        if (letters.length + n > MOST_BYTES) {
            return FULL;
        }
        letters.append(n, v);
        return letters.length;
    }

    public int wipe() {
        int was = letters.length;
        letters.length = 0;
        return was;
    }

    public int fault() {
        return reader.firstFault(letters, draft);
    }

    public int town() {
        if (reader.firstFault(letters, draft) != NONE) {
            return LATE;
        }
        Plan told = draft;
        draft = plan;
        plan = told;
        now.begin(plan);
        acts.forgetAll();
        for (int slot = 0; slot < SLOTS; slot++) {
            isKept[slot] = false;
        }
        return plan.houses;
    }

    public int about(int what) {
        switch (what) {
            case 0:
                return plan.houses;
            case 1:
                return plan.streams;
            case 2:
                return plan.pieces;
            case 3:
                return now.springs;
            case 4:
                return acts.count;
            case 5:
                return now.countNotAtHome(plan);
            case 6:
                return now.countNotOwnedByHome(plan);
            case 7:
                return marks.count;
            case 8:
                return letters.length;
            default:
                return BAD;
        }
    }

    public int house(int house, int what) {
        if (!isHouse(house)) {
            return UNKNOWN;
        }
        switch (what) {
            case 0:
                return plan.height[house];
            case 1:
                return plan.door[house];
            case 2:
                return piecesIn(house);
            case 3:
                return widthOf(now.at, house);
            default:
                return BAD;
        }
    }

    public int stream(int stream, int what) {
        if (!isStream(stream)) {
            return UNKNOWN;
        }
        switch (what) {
            case 0:
                return plan.from[stream];
            case 1:
                return plan.to[stream];
            case 2:
                return plan.tenths[stream];
            case 3:
                return now.isShut[stream] ? 1 : 0;
            default:
                return BAD;
        }
    }

    public int piece(int piece, int what) {
        if (!isPiece(piece)) {
            return UNKNOWN;
        }
        switch (what) {
            case 0:
                return now.at[piece];
            case 1:
                return plan.width[piece];
            case 2:
                return plan.floatDepth[piece];
            case 3:
                return now.tied[piece];
            case 4:
                return plan.home[piece];
            case 5:
                return now.lastOwner[piece];
            default:
                return BAD;
        }
    }

    public int owner(int piece, int i) {
        if (!isPiece(piece)) {
            return UNKNOWN;
        }
        if (i < 0 || i >= now.ownersTold[piece]) {
            return NONE;
        }
        return now.owners[piece][i];
    }

    public int tie(int piece, int x) {
        if (!isPiece(piece)) {
            return UNKNOWN;
        }
        if (x < 0 || x > TOP_TIE) {
            return BAD;
        }
        int was = now.tied[piece];
        now.tied[piece] = x;
        return was;
    }

    public int carry(int piece, int house) {
        if (!isPiece(piece) || !isHouse(house)) {
            return UNKNOWN;
        }
        int was = now.at[piece];
        now.at[piece] = house;
        return was;
    }

    public int shut(int stream, boolean is) {
        if (!isStream(stream)) {
            return UNKNOWN;
        }
        boolean was = now.isShut[stream];
        now.isShut[stream] = is;
        return was == is ? 0 : 1;
    }

    // ---- floods

    public int deep(int house, int level) {
        if (!isHouse(house)) {
            return UNKNOWN;
        }
        if (!isLevel(level)) {
            return BAD;
        }
        return plan.waterIn(house, level);
    }

    public int hour(int level) {
        if (!isLevel(level)) {
            return BAD;
        }
        acts.remember(now);
        trial.begin(plan, now, NONE);
        trial.passHour(plan, level);
        now.takePlacesAndTies(trial.at, trial.tied);
        return trial.went;
    }

    public int jams(int level) {
        if (!isLevel(level)) {
            return BAD;
        }
        trial.begin(plan, now, NONE);
        trial.passHour(plan, level);
        return trial.jammed;
    }

    public int spring() {
        acts.remember(now);
        return now.passSpring(plan.pieces);
    }

    public int undo() {
        if (acts.count == 0) {
            return LATE;
        }
        acts.takeBack(now);
        return acts.count;
    }

    public int after(int piece, int level, int n) {
        if (!isPiece(piece)) {
            return UNKNOWN;
        }
        if (!isLevel(level) || !areHours(n)) {
            return BAD;
        }
        trial.begin(plan, now, NONE);
        trial.passHours(plan, level, n);
        return trial.at[piece];
    }

    // ---- plans

    public int ties(int pieces, int level, int n, boolean who) {
        if (!arePieces(pieces) || !isLevel(level) || !areHours(n)) {
            return BAD;
        }
        int leastCost = NONE;
        int leastSet = NONE;
        int sets = 1 << plan.pieces;
        for (int set = 0; set < sets; set++) {
            trial.begin(plan, now, NONE);
            int cost = tieAll(set, level);
            if (leastSet == NONE || cost < leastCost) {
                trial.passHours(plan, level, n);
                if (areWhereTheyWere(pieces)) {
                    leastCost = cost;
                    leastSet = set;
                }
            }
        }
        return who ? leastSet : leastCost;
    }

    public int dowry(int piece, int level, int n, int house) {
        if (!isPiece(piece) || !isHouse(house)) {
            return UNKNOWN;
        }
        if (!isLevel(level) || !areHours(n)) {
            return BAD;
        }
        for (int start = 0; start < plan.houses; start++) {
            trial.begin(plan, now, NONE);
            trial.at[piece] = start;
            trial.passHours(plan, level, n);
            if (trial.at[piece] == house) {
                return start;
            }
        }
        return NONE;
    }

    public int toShut(int house, int level, int n) {
        if (!isHouse(house)) {
            return UNKNOWN;
        }
        if (!isLevel(level) || !areHours(n)) {
            return BAD;
        }
        trial.begin(plan, now, NONE);
        trial.passHours(plan, level, n);
        int most = widthOf(trial.at, house);
        int best = NONE;
        for (int stream = 0; stream < plan.streams; stream++) {
            trial.begin(plan, now, stream);
            trial.passHours(plan, level, n);
            int width = widthOf(trial.at, house);
            if (width > most) {
                most = width;
                best = stream;
            }
        }
        return best;
    }

    public long drawn(int piece, int level, int n, int house, boolean upper) {
        if (!isPiece(piece) || !isHouse(house)) {
            return UNKNOWN;
        }
        if (!isLevel(level) || !areHours(n)) {
            return BAD;
        }
        spread.begin(now.at[piece]);
        long below = 1;
        for (int hour = 0; hour < n; hour++) {
            spread.drawHour(plan, now.isShut, plan.floatDepth[piece], level);
            below *= TENTHS;
        }
        long above = spread.ways[house];
        // below is a power of ten, so no other primes can be in both
        long common = commonPower(above, below, 2) * commonPower(above, below, 5);
        return upper ? above / common : below / common;
    }

    public int goesFrom(int piece) {
        if (!isPiece(piece)) {
            return UNKNOWN;
        }
        trial.begin(plan, now, NONE);
        if (trial.strongest[now.at[piece]] == NONE) {
            return NONE;
        }
        for (int level = 0; level <= TOP_LEVEL; level++) {
            if (trial.isLoose(plan, piece, level)) {
                return level;
            }
        }
        return NONE;
    }

    // ---- marks

    public int mark(int spring, int house) {
        if (!isHouse(house)) {
            return UNKNOWN;
        }
        if (spring < 1 || spring > MOST_SPRINGS) {
            return BAD;
        }
        if (marks.count >= MOST_MARKS) {
            return FULL;
        }
        marks.add(spring, house);
        return marks.count;
    }

    public int unmark() {
        int was = marks.count;
        marks.count = 0;
        return was;
    }

    public long rows(int n, int house) {
        if (!isHouse(house)) {
            return UNKNOWN;
        }
        if (!areSprings(n)) {
            return BAD;
        }
        spreadRows(n, house);
        long sum = 0;
        for (int end = 0; end < plan.houses; end++) {
            sum += spread.ways[end];
        }
        return sum;
    }

    public int ends(int n, int house) {
        if (!isHouse(house)) {
            return UNKNOWN;
        }
        if (!areSprings(n)) {
            return BAD;
        }
        spreadRows(n, house);
        int bits = 0;
        for (int end = 0; end < plan.houses; end++) {
            if (spread.ways[end] > 0) {
                bits |= 1 << end;
            }
        }
        return bits;
    }

    // ---- slots

    public int keep(int slot) {
        if (slot < 0 || slot >= SLOTS) {
            return UNKNOWN;
        }
        kept[slot].takeAll(now);
        isKept[slot] = true;
        return now.springs;
    }

    public int again(int slot) {
        if (slot < 0 || slot >= SLOTS) {
            return UNKNOWN;
        }
        if (!isKept[slot]) {
            return LATE;
        }
        now.takeAll(kept[slot]);
        acts.forgetAll();
        return now.springs;
    }

    // ---- what the calls have in common

    private boolean isHouse(int house) {
        return house >= 0 && house < plan.houses;
    }

    private boolean isStream(int stream) {
        return stream >= 0 && stream < plan.streams;
    }

    private boolean isPiece(int piece) {
        return piece >= 0 && piece < plan.pieces;
    }

    private boolean arePieces(int bits) {
        return bits >= 0 && bits < 1 << plan.pieces;
    }

    private static boolean isLevel(int level) {
        return level >= 0 && level <= TOP_LEVEL;
    }

    private static boolean areHours(int n) {
        return n >= 1 && n <= MOST_HOURS;
    }

    private static boolean areSprings(int n) {
        return n >= 0 && n <= MOST_SPRINGS;
    }

    private int piecesIn(int house) {
        int bits = 0;
        for (int piece = 0; piece < plan.pieces; piece++) {
            if (now.at[piece] == house) {
                bits |= 1 << piece;
            }
        }
        return bits;
    }

    private int widthOf(int[] places, int house) {
        int width = 0;
        for (int piece = 0; piece < plan.pieces; piece++) {
            if (places[piece] == house) {
                width += plan.width[piece];
            }
        }
        return width;
    }

    /** Ties the pieces of a set in the trial where they are; what that costs. */
    private int tieAll(int set, int level) {
        int cost = 0;
        for (int piece = 0; piece < plan.pieces; piece++) {
            if ((set >> piece & 1) == 1) {
                int depth = Math.min(plan.waterIn(trial.at[piece], level), TOP_TIE);
                trial.tied[piece] = depth;
                cost += depth;
            }
        }
        return cost;
    }

    private boolean areWhereTheyWere(int pieces) {
        for (int piece = 0; piece < plan.pieces; piece++) {
            if ((pieces >> piece & 1) == 1 && trial.at[piece] != now.at[piece]) {
                return false;
            }
        }
        return true;
    }

    private void spreadRows(int n, int house) {
        spread.begin(house);
        for (int spring = 1; spring <= n; spring++) {
            spread.drawSpring(plan);
            spread.holdTo(marks, spring);
        }
    }

    /** The highest power of a prime (2 or 5) that divides both; below is 10 to the 9th at most, which ends it. */
    private static long commonPower(long above, long below, int prime) {
        long power = 1;
        for (int i = 0; i < MOST_HOURS; i++) {
            long next = power * prime;
            if (above % next != 0 || below % next != 0) {
                return power;
            }
            power = next;
        }
        return power;
    }

    /** THE TEXT. */
    private static final class Letters {
        final int[] bytes = new int[MOST_BYTES];
        int length;

        void append(int n, long v) {
            for (int i = n - 1; i >= 0 && length < MOST_BYTES; i--) {
                bytes[length] = (int) (v >>> (8 * i)) & 255;
                length++;
            }
        }
    }

    /** A TOWN as it is told: all that no flood changes. */
    private static final class Plan {
        int houses;
        int streams;
        int pieces;
        final int[] height = new int[MOST_HOUSES];
        final int[] door = new int[MOST_HOUSES];
        final int[] from = new int[MOST_STREAMS];
        final int[] to = new int[MOST_STREAMS];
        final int[] tenths = new int[MOST_STREAMS];
        final int[] home = new int[MOST_PIECES];
        final int[] width = new int[MOST_PIECES];
        final int[] floatDepth = new int[MOST_PIECES];
        final int[] toldTie = new int[MOST_PIECES];

        void clear() {
            houses = 0;
            streams = 0;
            pieces = 0;
        }

        void addHouse(int h, int d) {
            if (houses < MOST_HOUSES) {
                height[houses] = h;
                door[houses] = d;
                houses++;
            }
        }

        void addStream(int a, int b, int t) {
            if (streams < MOST_STREAMS) {
                from[streams] = a;
                to[streams] = b;
                tenths[streams] = t;
                streams++;
            }
        }

        void addPiece(int g, int w, int f, int x) {
            if (pieces < MOST_PIECES) {
                home[pieces] = g;
                width[pieces] = w;
                floatDepth[pieces] = f;
                toldTie[pieces] = x;
                pieces++;
            }
        }

        int tenthsLeftFrom(int a) {
            int left = TENTHS;
            for (int stream = 0; stream < streams; stream++) {
                if (from[stream] == a) {
                    left -= tenths[stream];
                }
            }
            return left;
        }

        /** Whether one more stream can be told from a HOUSE to another one, by the two alone. */
        boolean canJoin(int a, int b) {
            if (a == b || b >= houses) {
                return false;
            }
            for (int stream = 0; stream < streams; stream++) {
                if (from[stream] == a && to[stream] == b) {
                    return false;
                }
            }
            return true;
        }

        /** Whether one more stream can be told from a HOUSE to any other one. */
        boolean canLeave(int a) {
            if (a >= houses || tenthsLeftFrom(a) < 1) {
                return false;
            }
            for (int b = 0; b < houses; b++) {
                if (canJoin(a, b)) {
                    return true;
                }
            }
            return false;
        }

        boolean canHaveStream() {
            if (streams >= MOST_STREAMS) {
                return false;
            }
            for (int a = 0; a < houses; a++) {
                if (canLeave(a)) {
                    return true;
                }
            }
            return false;
        }

        int waterIn(int house, int level) {
            return Math.max(0, level - height[house]);
        }
    }

    /** Reads THE TEXT byte by byte into a plan, as far as it can be a TOWN. */
    private static final class Reader {
        private static final int LONGEST_PART = 5;

        /** The part that is being told: how many bytes of it have come, and which. */
        final int[] part = new int[LONGEST_PART];
        int come;

        int firstFault(Letters letters, Plan plan) {
            plan.clear();
            come = 0;
            for (int place = 0; place < letters.length; place++) {
                if (!takes(letters.bytes[place], plan)) {
                    return place;
                }
            }
            return come == 0 ? NONE : letters.length;
        }

        private boolean takes(int sign, Plan plan) {
            if (come == 0) {
                if (!canBegin(sign, plan)) {
                    return false;
                }
                part[0] = sign;
            } else {
                int digit = sign - '0';
                if (digit < 0 || digit > 9 || !canGoOn(digit, plan)) {
                    return false;
                }
                part[come] = digit;
            }
            come++;
            if (come == lengthOfPart()) {
                addPart(plan);
                come = 0;
            }
            return true;
        }

        private static boolean canBegin(int sign, Plan plan) {
            switch (sign) {
                case 'H':
                    return plan.houses < MOST_HOUSES;
                case 'S':
                    return plan.canHaveStream();
                case 'P':
                    return plan.houses > 0 && plan.pieces < MOST_PIECES;
                default:
                    return false;
            }
        }

        private boolean canGoOn(int digit, Plan plan) {
            switch (part[0]) {
                case 'H':
                    return come == 1 || digit > 0;
                case 'S':
                    return canGoOnWithStream(digit, plan);
                default:
                    return canGoOnWithPiece(digit, plan);
            }
        }

        private boolean canGoOnWithStream(int digit, Plan plan) {
            switch (come) {
                case 1:
                    return plan.canLeave(digit);
                case 2:
                    return plan.canJoin(part[1], digit);
                default:
                    return digit > 0 && digit <= plan.tenthsLeftFrom(part[1]);
            }
        }

        private boolean canGoOnWithPiece(int digit, Plan plan) {
            switch (come) {
                case 1:
                    return digit < plan.houses;
                case 4:
                    return true;
                default:
                    return digit > 0;
            }
        }

        private int lengthOfPart() {
            switch (part[0]) {
                case 'H':
                    return 3;
                case 'S':
                    return 4;
                default:
                    return LONGEST_PART;
            }
        }

        private void addPart(Plan plan) {
            switch (part[0]) {
                case 'H':
                    plan.addHouse(part[1], part[2]);
                    break;
                case 'S':
                    plan.addStream(part[1], part[2], part[3]);
                    break;
                default:
                    plan.addPiece(part[1], part[2], part[3], part[4]);
                    break;
            }
        }
    }

    /** How all is at one time: all that floods, springs and hands change. */
    private static final class Stand {
        int springs;
        final int[] at = new int[MOST_PIECES];
        final int[] tied = new int[MOST_PIECES];
        /** Kept beside the told ones, for it changes also when no more of them are told. */
        final int[] lastOwner = new int[MOST_PIECES];
        final int[] ownersTold = new int[MOST_PIECES];
        final int[][] owners = new int[MOST_PIECES][MOST_OWNERS];
        final boolean[] isShut = new boolean[MOST_STREAMS];

        void begin(Plan plan) {
            springs = 0;
            for (int piece = 0; piece < plan.pieces; piece++) {
                int home = plan.home[piece];
                at[piece] = home;
                tied[piece] = plan.toldTie[piece];
                lastOwner[piece] = home;
                owners[piece][0] = home;
                ownersTold[piece] = 1;
            }
            for (int stream = 0; stream < MOST_STREAMS; stream++) {
                isShut[stream] = false;
            }
        }

        void takePlacesAndTies(int[] places, int[] ties) {
            for (int piece = 0; piece < MOST_PIECES; piece++) {
                at[piece] = places[piece];
                tied[piece] = ties[piece];
            }
        }

        /** All but what is SHUT: that is how an act is undone. */
        void takeAllButShut(Stand other) {
            springs = other.springs;
            takePlacesAndTies(other.at, other.tied);
            for (int piece = 0; piece < MOST_PIECES; piece++) {
                lastOwner[piece] = other.lastOwner[piece];
                ownersTold[piece] = other.ownersTold[piece];
                for (int i = 0; i < MOST_OWNERS; i++) {
                    owners[piece][i] = other.owners[piece][i];
                }
            }
        }

        void takeAll(Stand other) {
            takeAllButShut(other);
            for (int stream = 0; stream < MOST_STREAMS; stream++) {
                isShut[stream] = other.isShut[stream];
            }
        }

        int passSpring(int pieces) {
            springs++;
            int changed = 0;
            for (int piece = 0; piece < pieces; piece++) {
                if (lastOwner[piece] != at[piece]) {
                    addOwner(piece, at[piece]);
                    changed++;
                }
            }
            return changed;
        }

        private void addOwner(int piece, int house) {
            lastOwner[piece] = house;
            int told = ownersTold[piece];
            if (told < MOST_OWNERS) {
                owners[piece][told] = house;
                ownersTold[piece] = told + 1;
            }
        }

        int countNotAtHome(Plan plan) {
            return countUnlike(at, plan.home, plan.pieces);
        }

        int countNotOwnedByHome(Plan plan) {
            return countUnlike(lastOwner, plan.home, plan.pieces);
        }

        private static int countUnlike(int[] some, int[] others, int length) {
            int unlike = 0;
            for (int i = 0; i < length; i++) {
                if (some[i] != others[i]) {
                    unlike++;
                }
            }
            return unlike;
        }
    }

    /** The row of ACTS: how all was ahead of each. */
    private static final class Acts {
        final Stand[] ahead = new Stand[MOST_ACTS];
        int first;
        int count;

        Acts() {
            for (int act = 0; act < MOST_ACTS; act++) {
                ahead[act] = new Stand();
            }
        }

        void forgetAll() {
            count = 0;
        }

        void remember(Stand stand) {
            if (count == MOST_ACTS) {
                first = (first + 1) % MOST_ACTS;
                count--;
            }
            ahead[(first + count) % MOST_ACTS].takeAllButShut(stand);
            count++;
        }

        void takeBack(Stand stand) {
            if (count > 0) {
                count--;
                stand.takeAllButShut(ahead[(first + count) % MOST_ACTS]);
            }
        }
    }

    /** Hours that are only looked at: here pieces may be put and tied otherwise first. */
    private static final class Trial {
        final int[] at = new int[MOST_PIECES];
        final int[] tied = new int[MOST_PIECES];
        final int[] strongest = new int[MOST_HOUSES];
        /** The width that each door has let through in the hour. */
        final int[] through = new int[MOST_HOUSES];
        int went;
        int jammed;

        void begin(Plan plan, Stand stand, int alsoShut) {
            for (int piece = 0; piece < plan.pieces; piece++) {
                at[piece] = stand.at[piece];
                tied[piece] = stand.tied[piece];
            }
            for (int house = 0; house < plan.houses; house++) {
                strongest[house] = NONE;
            }
            for (int stream = 0; stream < plan.streams; stream++) {
                if (stream != alsoShut && !stand.isShut[stream]) {
                    weigh(plan, stream);
                }
            }
        }

        private void weigh(Plan plan, int stream) {
            int house = plan.from[stream];
            int other = strongest[house];
            if (other == NONE || plan.tenths[other] < plan.tenths[stream]) {
                strongest[house] = stream;
            }
        }

        void passHours(Plan plan, int level, int n) {
            for (int hour = 0; hour < n; hour++) {
                passHour(plan, level);
                if (went == 0) {
                    // what could break is broken: at this level none goes any more
                    return;
                }
            }
        }

        void passHour(Plan plan, int level) {
            went = 0;
            jammed = 0;
            for (int house = 0; house < plan.houses; house++) {
                through[house] = 0;
            }
            // no piece's place or tie counts for another one, so each may break loose and go in turn
            for (int piece = 0; piece < plan.pieces; piece++) {
                int here = at[piece];
                if (isLoose(plan, piece, level)) {
                    tied[piece] = 0;
                    if (strongest[here] != NONE) {
                        letGo(piece, here, plan.to[strongest[here]], plan);
                    }
                }
            }
        }

        /** Whether a piece floats where it is and no tie holds it; none floats where no water is. */
        boolean isLoose(Plan plan, int piece, int level) {
            int depth = plan.waterIn(at[piece], level);
            return depth >= plan.floatDepth[piece] && depth > tied[piece];
        }

        private void letGo(int piece, int here, int there, Plan plan) {
            int width = plan.width[piece];
            if (through[here] + width > plan.door[here] || through[there] + width > plan.door[there]) {
                jammed |= 1 << piece;
                return;
            }
            through[here] += width;
            through[there] += width;
            at[piece] = there;
            went |= 1 << piece;
        }
    }

    /** MARKS, in the order in which they were made. */
    private static final class Marks {
        final int[] atSpring = new int[MOST_MARKS];
        final int[] inHouse = new int[MOST_MARKS];
        int count;

        void add(int spring, int house) {
            if (count < MOST_MARKS) {
                atSpring[count] = spring;
                inHouse[count] = house;
                count++;
            }
        }

        boolean hold(int spring, int house) {
            for (int i = 0; i < count; i++) {
                if (atSpring[i] == spring && inHouse[i] != house) {
                    return false;
                }
            }
            return true;
        }
    }

    /** In how many ways, counted by tenths or one by one, something can be in each house. */
    private static final class Spread {
        long[] ways = new long[MOST_HOUSES];
        private long[] next = new long[MOST_HOUSES];

        void begin(int house) {
            for (int i = 0; i < MOST_HOUSES; i++) {
                ways[i] = i == house ? 1 : 0;
            }
        }

        /** One hour by drawn streams: each house's ways become ten times as many, shared out by tenths. */
        void drawHour(Plan plan, boolean[] isShut, int depthToFloat, int level) {
            for (int house = 0; house < MOST_HOUSES; house++) {
                next[house] = TENTHS * ways[house];
            }
            for (int stream = 0; stream < plan.streams; stream++) {
                int house = plan.from[stream];
                if (!isShut[stream] && plan.waterIn(house, level) >= depthToFloat) {
                    move(house, plan.to[stream], plan.tenths[stream]);
                }
            }
            turn();
        }

        private void move(int house, int there, int tenths) {
            next[house] -= tenths * ways[house];
            next[there] += tenths * ways[house];
        }

        /** One spring: each way goes on where it is and by every stream from there. */
        void drawSpring(Plan plan) {
            for (int house = 0; house < MOST_HOUSES; house++) {
                next[house] = ways[house];
            }
            for (int stream = 0; stream < plan.streams; stream++) {
                next[plan.to[stream]] += ways[plan.from[stream]];
            }
            turn();
        }

        private void turn() {
            long[] were = ways;
            ways = next;
            next = were;
        }

        void holdTo(Marks marks, int spring) {
            for (int house = 0; house < MOST_HOUSES; house++) {
                if (!marks.hold(spring, house)) {
                    ways[house] = 0;
                }
            }
        }
    }
}
