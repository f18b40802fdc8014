import java.util.Arrays;

/** A stone yard: octagonal pieces, the rules of their joints, and assemblies of them. */
public final class OctagonYard {
    public static final int BAD = -1, STATE = -2, FULL = -3, NONE = -4;

    private static final int UNDECIDED = -5;
    private static final int NOWHERE = 100000;
    private static final int NOBODY = -1;

    private static final int DIRECTIONS = 8;
    private static final int DOWN = 5;
    private static final int MOST_SIZE = 1000;
    private static final int MOST_SHIFT = 1000;
    private static final int MOST_REACH = 4000;
    private static final int MOST_POINT = 10000;

    private static final int KINDS = 6;
    private static final int SLAB = 0, LEAN = 1, WEDGE = 2, KEYSTONE = 3, COFFIN = 4, DRUM = 5;
    private static final int FIRST_FAMILY = 6, MANY = 8, STONE = 9;
    private static final int MOST_JOINT = 99;
    private static final int PACKS = 8;

    /** What direction k measures of a point: ACROSS[k] * x + UPWARD[k] * y. */
    private static final int[] ACROSS = {1, 0, 1, 1, -1, 0, -1, -1};
    private static final int[] UPWARD = {0, 1, 1, -1, 0, -1, -1, 1};

    /** The directions as a walk with the inside on the left meets them from the first CORNER on. */
    private static final int[] ROUND = {6, 5, 3, 0, 2, 1, 7, 4};

    /** Which direction's reach becomes that of direction k: eight numbers for each way to turn. */
    private static final int[] TURNS = {
        5, 0, 3, 6, 1, 4, 7, 2,
        4, 1, 7, 6, 0, 5, 3, 2,
        1, 0, 2, 7, 5, 4, 6, 3
    };
    private static final int WAYS_TO_TURN = 3;
    private static final int WAYS_TO_CUT = 4;

    private final Stock stock;
    private final History history;
    private final Rules rules;
    private final Assemblies assemblies;

    public OctagonYard() {
        stock = new Stock();
        history = new History();
        rules = new Rules();
        assemblies = new Assemblies();
    }

    public int block(int w, int h, int l) {
        if (!isFrom(w, 1, MOST_SIZE) || !isFrom(h, 1, MOST_SIZE) || !isFrom(l, 1, MOST_SIZE)) {
            return BAD;
        }
        if (stock.isFull()) {
            return FULL;
        }
        int number = stock.came;
        Piece fresh = stock.add(number, l);
        fresh.shape.becomeBox(w, h);
        fresh.sawnFrom = fresh.shape.eightfold();
        stock.blocks++;
        history.keep(NOBODY, null, number);
        return number;
    }

    public int cut(int p, int way, int c) {
        Piece piece = stock.find(p);
        if (piece == null || !isFrom(way, 0, WAYS_TO_CUT - 1) || !isFrom(c, -MOST_REACH, MOST_REACH)) {
            return BAD;
        }
        if (!piece.shape.isCrossedBy(way, 2 * c)) {
            return STATE;
        }
        if (stock.isFull()) {
            return FULL;
        }
        int number = stock.came;
        Piece fresh = stock.add(piece.origin, piece.thickness);
        history.keep(p, piece.shape, number);
        piece.shape.splitAt(way, 2 * c, fresh.shape);
        return number;
    }

    public int move(int p, int x, int y) {
        Piece piece = stock.find(p);
        if (piece == null || !isFrom(x, -MOST_SHIFT, MOST_SHIFT) || !isFrom(y, -MOST_SHIFT, MOST_SHIFT)) {
            return BAD;
        }
        if (!piece.shape.canShift(x, y)) {
            return BAD;
        }
        history.keep(p, piece.shape, NOBODY);
        piece.shape.shift(x, y);
        return 1;
    }

    public int turn(int p, int way) {
        Piece piece = stock.find(p);
        if (piece == null || !isFrom(way, 0, WAYS_TO_TURN - 1)) {
            return BAD;
        }
        history.keep(p, piece.shape, NOBODY);
        piece.shape.swing(way);
        return 1;
    }

    public int scrap(int p) {
        Piece piece = stock.find(p);
        if (piece == null) {
            return BAD;
        }
        if (assemblies.hold(p)) {
            return STATE;
        }
        history.keep(p, piece.shape, NOBODY);
        piece.there = false;
        return 1;
    }

    public int bound(int p, int k) {
        Piece piece = stock.find(p);
        if (piece == null || !isFrom(k, 0, DIRECTIONS - 1)) {
            return NOWHERE;
        }
        return piece.shape.wholeReach(k);
    }

    public int about(int p, int what) {
        Piece piece = stock.find(p);
        if (piece == null) {
            return BAD;
        }
        switch (what) {
            case 0: return piece.shape.kind();
            case 1: return piece.shape.corners;
            case 2: return piece.thickness;
            case 3: return piece.origin;
            case 4: return familyOf(piece.shape.kind());
            default: return BAD;
        }
    }

    public int corner(int p, int i, int what) {
        Piece piece = stock.find(p);
        if (piece == null || !isFrom(i, 0, piece.shape.corners - 1) || !isFrom(what, 0, 1)) {
            return NOWHERE;
        }
        return what == 0 ? piece.shape.cornerX[i] : piece.shape.cornerY[i];
    }

    public int side(int p, int i) {
        Piece piece = stock.find(p);
        if (piece == null || !isFrom(i, 0, piece.shape.corners - 1)) {
            return BAD;
        }
        return piece.shape.direction[i];
    }

    public int area(int p) {
        Piece piece = stock.find(p);
        return piece == null ? BAD : piece.shape.eightfold();
    }

    public long volume(int p) {
        Piece piece = stock.find(p);
        return piece == null ? BAD : piece.bulk();
    }

    public int inside(int p, int x, int y) {
        Piece piece = stock.find(p);
        if (piece == null || !isFrom(x, -MOST_POINT, MOST_POINT) || !isFrom(y, -MOST_POINT, MOST_POINT)) {
            return BAD;
        }
        return piece.shape.place(x, y);
    }

    public int waste(int p) {
        return stock.lostOf(p);
    }

    public int near(int a, int b) {
        Piece one = stock.find(a);
        Piece other = stock.find(b);
        if (one == null || other == null || a == b) {
            return BAD;
        }
        if (one.shape.overlaps(other.shape)) {
            return 2;
        }
        return one.shape.directionTo(other.shape) == NONE ? 0 : 1;
    }

    public int touch(int a, int b, int what) {
        Piece one = stock.find(a);
        Piece other = stock.find(b);
        if (one == null || other == null || a == b || !isFrom(what, 0, 1)) {
            return BAD;
        }
        int direction = one.shape.directionTo(other.shape);
        if (direction == NONE || what == 0) {
            return direction;
        }
        return one.shape.common(direction, other.shape);
    }

    // ---- rules

    public int rule(int first, int second, int joint, int pack) {
        if (!isFrom(first, 0, STONE) || !isFrom(second, 0, STONE)) {
            return BAD;
        }
        if (!isFrom(joint, 1, MOST_JOINT) || !isFrom(pack, 0, PACKS - 1)) {
            return BAD;
        }
        return rules.isFull() ? FULL : rules.add(first, second, joint, pack);
    }

    public int pack(int n, boolean on) {
        if (!isFrom(n, 0, PACKS - 1) || (n == 0 && !on)) {
            return BAD;
        }
        return rules.switchPack(n, on);
    }

    public int above(int k, int l, int i) {
        if (!isFrom(k, 0, KINDS - 1) || !isFrom(l, 0, KINDS - 1) || i < 0) {
            return BAD;
        }
        return rules.inOrder(k, l, i);
    }

    public int treats(int k, int l) {
        if (!isFrom(k, 0, KINDS - 1) || !isFrom(l, 0, KINDS - 1)) {
            return BAD;
        }
        return rules.decide(k, l);
    }

    public int undecided() {
        int pairs = 0;
        for (int k = 0; k < KINDS; k++) {
            for (int l = 0; l < KINDS; l++) {
                if (rules.decide(k, l) == UNDECIDED) {
                    pairs++;
                }
            }
        }
        return pairs;
    }

    public int meet(int a, int b) {
        Piece one = stock.find(a);
        Piece other = stock.find(b);
        if (one == null || other == null || a == b) {
            return BAD;
        }
        if (one.shape.directionTo(other.shape) == NONE) {
            return STATE;
        }
        int treating = rules.decide(one.shape.kind(), other.shape.kind());
        return treating < 0 ? treating : rules.joint[treating];
    }

    // ---- assemblies

    public int assembly() {
        return assemblies.isFull() ? FULL : assemblies.add();
    }

    public int put(int into, int what, boolean whole) {
        if (!assemblies.has(into)) {
            return BAD;
        }
        if (whole ? !assemblies.has(what) : stock.find(what) == null) {
            return BAD;
        }
        return whole ? assemblies.joinAssembly(into, what) : assemblies.joinPiece(into, what);
    }

    public int walked(int a) {
        return assemblies.has(a) ? assemblies.rows[a].pieces : BAD;
    }

    public int walk(int a, int i) {
        if (!assemblies.has(a) || i < 0) {
            return BAD;
        }
        if (i >= assemblies.rows[a].pieces) {
            return NONE;
        }
        assemblies.gather(a);
        return i < assemblies.length ? assemblies.way[i] : NONE;
    }

    public long weight(int a) {
        if (!assemblies.has(a)) {
            return BAD;
        }
        assemblies.gather(a);
        long sum = 0;
        for (int i = 0; i < assemblies.length; i++) {
            Piece piece = stock.find(assemblies.way[i]);
            if (piece != null) {
                sum += piece.bulk();
            }
        }
        return sum;
    }

    public int price(int a) {
        if (!assemblies.has(a)) {
            return BAD;
        }
        assemblies.gather(a);
        int sum = 0;
        for (int i = 0; i < assemblies.length; i++) {
            Piece piece = stock.find(assemblies.way[i]);
            if (piece != null) {
                sum += piece.cost();
            }
        }
        return sum;
    }

    public int check(int a) {
        if (!assemblies.has(a)) {
            return BAD;
        }
        assemblies.gather(a);
        long all = assemblies.gathered();
        long resting = 0;
        for (int i = 0; i < assemblies.length; i++) {
            int number = assemblies.way[i];
            // A PIECE may be WALKED 500 times; it is looked at once.
            if ((resting >> number & 1) == 0) {
                if (!stock.rests(number, all)) {
                    return number;
                }
                resting |= 1L << number;
            }
        }
        return NONE;
    }

    public int undo() {
        if (history.size == 0) {
            return NONE;
        }
        int fresh = history.latestFresh();
        if (fresh != NOBODY) {
            if (assemblies.hold(fresh)) {
                return STATE;
            }
            stock.takeBackLatest();
        }
        Piece changed = stock.findEvenScrapped(history.latestChanged());
        if (changed != null) {
            changed.there = true;
            history.giveBack(changed.shape);
        }
        history.dropLatest();
        return history.size;
    }

    public int count(int what) {
        switch (what) {
            case 0: return stock.present();
            case 1: return rules.size;
            case 2: return assemblies.size;
            case 3: return stock.blocks;
            default: return BAD;
        }
    }

    private static boolean isFrom(int number, int least, int most) {
        return least <= number && number <= most;
    }

    private static int familyOf(int kind) {
        return FIRST_FAMILY + kind / 2;
    }

    private static int opposite(int direction) {
        return (direction + 4) % DIRECTIONS;
    }

    private static int measure(int direction, int x, int y) {
        return ACROSS[direction] * x + UPWARD[direction] * y;
    }

    /** The points of a PIECE. All its numbers are doubled, so that halves stay whole. */
    private static final class Octagon {
        /** Below all that a point can measure, so that the first one is always farther. */
        private static final int UNREACHED = -1000000;

        /** How far the points go in each direction; between whole E k it may end at a half. */
        final int[] reach = new int[DIRECTIONS];
        final int[] cornerX = new int[DIRECTIONS];
        final int[] cornerY = new int[DIRECTIONS];
        /** Of the SIDE from CORNER i on. */
        final int[] direction = new int[DIRECTIONS];
        int corners;

        void becomeBox(int w, int h) {
            clearReach();
            stretch(0, 0);
            stretch(2 * w, 0);
            stretch(2 * w, 2 * h);
            stretch(0, 2 * h);
            settle();
        }

        void becomeReach(int[] from, int start) {
            System.arraycopy(from, start, reach, 0, DIRECTIONS);
            settle();
        }

        boolean canShift(int x, int y) {
            for (int k = 0; k < DIRECTIONS; k++) {
                if (wholeReach(k) + measure(k, x, y) > MOST_REACH) {
                    return false;
                }
            }
            return true;
        }

        void shift(int x, int y) {
            for (int k = 0; k < DIRECTIONS; k++) {
                reach[k] += 2 * measure(k, x, y);
            }
            settle();
        }

        void swing(int way) {
            // The CORNERS are made anew from the reach below, so their row is free to hold the old one.
            System.arraycopy(reach, 0, cornerX, 0, DIRECTIONS);
            for (int k = 0; k < DIRECTIONS; k++) {
                reach[k] = cornerX[TURNS[way * DIRECTIONS + k]];
            }
            settle();
        }

        boolean isCrossedBy(int way, int c) {
            return c < reach[way] && -c < reach[opposite(way)];
        }

        /** Keeps what measures at most c; the line must go through within. */
        void splitAt(int way, int c, Octagon rest) {
            clearReach();
            rest.clearReach();
            for (int i = 0; i < corners; i++) {
                int next = following(i);
                int here = measure(way, cornerX[i], cornerY[i]) - c;
                int ahead = measure(way, cornerX[next], cornerY[next]) - c;
                if (here <= 0) {
                    stretch(cornerX[i], cornerY[i]);
                }
                if (here >= 0) {
                    rest.stretch(cornerX[i], cornerY[i]);
                }
                if ((here < 0 && ahead > 0) || (here > 0 && ahead < 0)) {
                    // Lines of the eight directions cross at halves, so nothing is lost here.
                    int x = cornerX[i] + (cornerX[next] - cornerX[i]) * here / (here - ahead);
                    int y = cornerY[i] + (cornerY[next] - cornerY[i]) * here / (here - ahead);
                    stretch(x, y);
                    rest.stretch(x, y);
                }
            }
            settle();
            rest.settle();
        }

        int wholeReach(int k) {
            return Math.floorDiv(reach[k] + 1, 2);
        }

        int kind() {
            switch (corners) {
                case 3: return WEDGE;
                case 4: return kindOfFour();
                case 5:
                case 6: return COFFIN;
                default: return DRUM;
            }
        }

        private int kindOfFour() {
            if (slantedSides() == 0) {
                return SLAB;
            }
            boolean paired = direction[2] == opposite(direction[0]) && direction[3] == opposite(direction[1]);
            return paired ? LEAN : KEYSTONE;
        }

        int slantedSides() {
            int slanted = 0;
            for (int i = 0; i < corners; i++) {
                if (direction[i] % 4 >= 2) {
                    slanted++;
                }
            }
            return slanted;
        }

        int eightfold() {
            int sum = 0;
            for (int i = 0; i < corners; i++) {
                int next = following(i);
                sum += cornerX[i] * cornerY[next] - cornerX[next] * cornerY[i];
            }
            return sum;
        }

        int place(int x, int y) {
            int place = 2;
            for (int k = 0; k < DIRECTIONS; k++) {
                int beyond = measure(k, x, y) - reach[k];
                if (beyond > 0) {
                    return 0;
                }
                if (beyond == 0) {
                    place = 1;
                }
            }
            return place;
        }

        /** Two such shapes lie apart only if a line of one of the eight directions parts them. */
        boolean overlaps(Octagon other) {
            for (int k = 0; k < DIRECTIONS; k++) {
                if (reach[k] + other.reach[opposite(k)] <= 0) {
                    return false;
                }
            }
            return true;
        }

        /** The direction of the TOUCH. SIDES of opposite directions on one line part the shapes: no OVERLAP. */
        int directionTo(Octagon other) {
            for (int i = 0; i < corners; i++) {
                if (common(direction[i], other) > 0) {
                    return direction[i];
                }
            }
            return NONE;
        }

        /** How long the SIDE of direction k and the other's SIDE of the opposite one lie on each other. */
        int common(int k, Octagon other) {
            int mine = sideOf(k);
            int others = other.sideOf(opposite(k));
            if (mine == NONE || others == NONE || reach[k] + other.reach[opposite(k)] != 0) {
                return 0;
            }
            int low = Math.max(lowEnd(mine), other.lowEnd(others));
            int high = Math.min(highEnd(mine), other.highEnd(others));
            return Math.max(0, high - low);
        }

        private int sideOf(int k) {
            for (int i = 0; i < corners; i++) {
                if (direction[i] == k) {
                    return i;
                }
            }
            return NONE;
        }

        private int lowEnd(int i) {
            return Math.min(alongSide(i, i), alongSide(i, following(i)));
        }

        private int highEnd(int i) {
            return Math.max(alongSide(i, i), alongSide(i, following(i)));
        }

        private int alongSide(int side, int at) {
            return direction[side] % 4 == 0 ? cornerY[at] : cornerX[at];
        }

        private int following(int i) {
            return i + 1 < corners ? i + 1 : 0;
        }

        private void clearReach() {
            Arrays.fill(reach, UNREACHED);
        }

        private void stretch(int x, int y) {
            for (int k = 0; k < DIRECTIONS; k++) {
                reach[k] = Math.max(reach[k], measure(k, x, y));
            }
        }

        private void settle() {
            corners = 0;
            for (int i = 0; i < DIRECTIONS; i++) {
                int before = ROUND[(i + DIRECTIONS - 1) % DIRECTIONS];
                int k = ROUND[i];
                int after = ROUND[(i + 1) % DIRECTIONS];
                int x = crossX(before, k);
                int y = crossY(before, k);
                // A direction that only a CORNER reaches has no SIDE.
                if (x != crossX(k, after) || y != crossY(k, after)) {
                    cornerX[corners] = x;
                    cornerY[corners] = y;
                    direction[corners] = k;
                    corners++;
                }
            }
        }

        /** Of neighbours in ROUND the determinant is 1, so where their lines cross needs no division. */
        private int crossX(int k, int after) {
            return reach[k] * UPWARD[after] - reach[after] * UPWARD[k];
        }

        private int crossY(int k, int after) {
            return reach[after] * ACROSS[k] - reach[k] * ACROSS[after];
        }
    }

    private static final class Piece {
        final Octagon shape = new Octagon();
        int thickness;
        int origin;
        /** The AREA 8 of its block(), if it came by one. */
        int sawnFrom;
        boolean there;

        long bulk() {
            return (long) shape.eightfold() * thickness;
        }

        int cost() {
            int extra = familyOf(shape.kind()) == MANY ? 10 : 0;
            return 3 * shape.corners + 2 * shape.slantedSides() + thickness + extra;
        }
    }

    private static final class Stock {
        private static final int MOST = 60;

        /** A place is filled when it is first needed and used again after undo(). */
        final Piece[] pieces = new Piece[MOST];
        int came;
        int blocks;

        boolean isFull() {
            return came >= MOST;
        }

        /** To be called only while it is not full. */
        Piece add(int origin, int thickness) {
            if (pieces[came] == null) {
                pieces[came] = new Piece();
            }
            Piece fresh = pieces[came];
            fresh.origin = origin;
            fresh.thickness = thickness;
            fresh.there = true;
            came++;
            return fresh;
        }

        Piece find(int p) {
            Piece piece = findEvenScrapped(p);
            return piece != null && piece.there ? piece : null;
        }

        Piece findEvenScrapped(int p) {
            return isFrom(p, 0, came - 1) ? pieces[p] : null;
        }

        private boolean cameAsBlock(int p) {
            Piece piece = findEvenScrapped(p);
            return piece != null && piece.origin == p;
        }

        void takeBackLatest() {
            if (came > 0) {
                if (cameAsBlock(came - 1)) {
                    blocks--;
                }
                came--;
            }
        }

        int present() {
            int there = 0;
            for (int p = 0; p < came; p++) {
                if (find(p) != null) {
                    there++;
                }
            }
            return there;
        }

        /** BAD, if no block() came by that number. */
        int lostOf(int p) {
            Piece block = findEvenScrapped(p);
            if (block == null || !cameAsBlock(p)) {
                return BAD;
            }
            int lost = block.sawnFrom;
            for (int q = 0; q < came; q++) {
                Piece piece = find(q);
                if (piece != null && piece.origin == p) {
                    lost -= piece.shape.eightfold();
                }
            }
            return lost;
        }

        /** Whether a PIECE rests on the ground or on another one of those whose bits are set. */
        boolean rests(int number, long bits) {
            Piece upper = find(number);
            if (upper == null || upper.shape.reach[DOWN] >= 0) {
                return true;
            }
            for (int p = 0; p < came; p++) {
                Piece lower = find(p);
                if (lower != null && p != number && (bits >> p & 1) != 0
                        && upper.shape.common(DOWN, lower.shape) > 0) {
                    return true;
                }
            }
            return false;
        }
    }

    /** What the latest calls changed, in a ring: the oldest is forgotten for a new one. */
    private static final class History {
        private static final int MOST = 8;

        final int[] changed = new int[MOST];
        final int[] fresh = new int[MOST];
        final int[] reach = new int[MOST * DIRECTIONS];
        int latest = MOST - 1;
        int size;

        /** To be called ahead of the change; NOBODY and null, if no PIECE that was there changes. */
        void keep(int changedPiece, Octagon before, int freshPiece) {
            latest = (latest + 1) % MOST;
            size = Math.min(size + 1, MOST);
            changed[latest] = changedPiece;
            fresh[latest] = freshPiece;
            if (before != null) {
                System.arraycopy(before.reach, 0, reach, latest * DIRECTIONS, DIRECTIONS);
            }
        }

        int latestFresh() {
            return fresh[latest];
        }

        int latestChanged() {
            return changed[latest];
        }

        void giveBack(Octagon shape) {
            shape.becomeReach(reach, latest * DIRECTIONS);
        }

        void dropLatest() {
            latest = (latest + MOST - 1) % MOST;
            size = Math.max(size - 1, 0);
        }
    }

    private static final class Rules {
        private static final int MOST = 40;
        private static final int NO_STEPS = -1;
        private static final int STEPS = 3;

        final int[] first = new int[MOST];
        final int[] second = new int[MOST];
        final int[] joint = new int[MOST];
        final int[] ofPack = new int[MOST];
        int size;
        /** A bit for each PACK that is on. */
        int packsOn = (1 << PACKS) - 1;

        Rules() {
            first[0] = STONE;
            second[0] = STONE;
            joint[0] = 1;
            size = 1;
        }

        boolean isFull() {
            return size >= MOST;
        }

        /** To be called only while it is not full. */
        int add(int one, int other, int made, int within) {
            first[size] = one;
            second[size] = other;
            joint[size] = made;
            ofPack[size] = within;
            return size++;
        }

        int switchPack(int n, boolean on) {
            int was = packsOn >> n & 1;
            packsOn = on ? packsOn | 1 << n : packsOn & ~(1 << n);
            return was;
        }

        int inOrder(int k, int l, int i) {
            if (i >= size) {
                return NONE;
            }
            int rank = -1;
            for (int done = 0; done <= i; done++) {
                rank = rankAfter(k, l, rank);
                if (rank == NONE) {
                    return NONE;
                }
            }
            return numberOf(rank);
        }

        int decide(int k, int l) {
            int rank = rankAfter(k, l, -1);
            if (rank == NONE) {
                return NONE;
            }
            int treating = numberOf(rank);
            int steps = stepsTo(k, first[treating]);
            int sum = steps + stepsTo(l, second[treating]);
            for (int r = 0; r < size; r++) {
                if (counts(r, k, l)) {
                    int others = stepsTo(k, first[r]);
                    if (others != steps && others + stepsTo(l, second[r]) == sum) {
                        return UNDECIDED;
                    }
                }
            }
            return treating;
        }

        /** The least rank above one that was told. */
        private int rankAfter(int k, int l, int last) {
            int best = NONE;
            for (int r = 0; r < size; r++) {
                if (counts(r, k, l)) {
                    int rank = rankOf(r, k, l);
                    if (rank > last && (best == NONE || rank < best)) {
                        best = rank;
                    }
                }
            }
            return best;
        }

        /** One number for the whole order: the sum of STEPS, STEPS of the first, the latest. */
        private int rankOf(int r, int k, int l) {
            int steps = stepsTo(k, first[r]);
            int sum = steps + stepsTo(l, second[r]);
            return (sum * STEPS + steps) * MOST + MOST - 1 - r;
        }

        private int numberOf(int rank) {
            return MOST - 1 - rank % MOST;
        }

        private boolean counts(int r, int k, int l) {
            boolean on = (packsOn >> ofPack[r] & 1) != 0;
            return on && stepsTo(k, first[r]) != NO_STEPS && stepsTo(l, second[r]) != NO_STEPS;
        }

        private static int stepsTo(int kind, int upper) {
            if (upper == kind) {
                return 0;
            }
            if (upper == familyOf(kind)) {
                return 1;
            }
            return upper == STONE ? 2 : NO_STEPS;
        }
    }

    private static final class Assembly {
        private static final int MOST = 20;

        final int[] part = new int[MOST];
        final boolean[] isAssembly = new boolean[MOST];
        int size;
        /** How many are WALKED. */
        int pieces;
        /** A bit for each ASSEMBLY that stands in it, however deep. */
        int within;
    }

    private static final class Assemblies {
        private static final int MOST = 12;
        private static final int MOST_PIECES = 500;

        final Assembly[] rows = new Assembly[MOST];
        int size;
        /** The PIECES that gather() found, in order. */
        final int[] way = new int[MOST_PIECES];
        int length;
        private final int[] gain = new int[MOST];

        boolean isFull() {
            return size >= MOST;
        }

        /** To be called only while it is not full. */
        int add() {
            rows[size] = new Assembly();
            return size++;
        }

        boolean has(int a) {
            return isFrom(a, 0, size - 1);
        }

        boolean hold(int piece) {
            for (int a = 0; a < size; a++) {
                Assembly row = rows[a];
                for (int i = 0; i < row.size; i++) {
                    if (!row.isAssembly[i] && row.part[i] == piece) {
                        return true;
                    }
                }
            }
            return false;
        }

        int joinPiece(int into, int piece) {
            if (!hasRoom(into, 1)) {
                return FULL;
            }
            return append(into, piece, false);
        }

        int joinAssembly(int into, int what) {
            if (what == into || isWithin(into, what)) {
                return STATE;
            }
            if (!hasRoom(into, rows[what].pieces)) {
                return FULL;
            }
            int added = rows[what].within | 1 << what;
            for (int a = 0; a < size; a++) {
                if (a == into || isWithin(into, a)) {
                    rows[a].within |= added;
                }
            }
            return append(into, what, true);
        }

        private boolean isWithin(int inner, int outer) {
            return (rows[outer].within >> inner & 1) != 0;
        }

        /** Leaves in gain[] what append() then adds. */
        private boolean hasRoom(int into, int more) {
            if (rows[into].size >= Assembly.MOST) {
                return false;
            }
            // What stands in an ASSEMBLY has fewer within it than that one, so its gain is known before.
            for (int depth = 0; depth < MOST; depth++) {
                for (int a = 0; a < size; a++) {
                    if (Integer.bitCount(rows[a].within) == depth) {
                        gain[a] = a == into ? more : gainOfParts(rows[a]);
                        if (rows[a].pieces + gain[a] > MOST_PIECES) {
                            return false;
                        }
                    }
                }
            }
            return true;
        }

        private int gainOfParts(Assembly row) {
            int sum = 0;
            for (int i = 0; i < row.size; i++) {
                if (row.isAssembly[i]) {
                    sum += gain[row.part[i]];
                }
            }
            return sum;
        }

        private int append(int into, int what, boolean whole) {
            for (int a = 0; a < size; a++) {
                rows[a].pieces += gain[a];
            }
            Assembly row = rows[into];
            row.part[row.size] = what;
            row.isAssembly[row.size] = whole;
            row.size++;
            return row.size;
        }

        void gather(int a) {
            length = 0;
            gatherDown(this, a, 0);
        }

        private static void gatherDown(Assemblies all, int a, int depth) {
            if (depth >= MOST) {
                return;
            }
            Assembly row = all.rows[a];
            for (int i = 0; i < row.size; i++) {
                int part = row.part[i];
                if (!row.isAssembly[i]) {
                    all.gatherPiece(part);
                } else if (all.rows[part].pieces > 0) {
                    // Empty ones, nested twelve deep, would be gone through for ever.
                    gatherDown(all, part, depth + 1);
                }
            }
        }

        private void gatherPiece(int piece) {
            if (length < MOST_PIECES) {
                way[length] = piece;
                length++;
            }
        }

        /** A bit for each PIECE that gather() found. */
        long gathered() {
            long bits = 0;
            for (int i = 0; i < length; i++) {
                bits |= 1L << way[i];
            }
            return bits;
        }
    }
}
