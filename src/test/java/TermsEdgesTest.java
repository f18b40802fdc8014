/** The boundary cases that the document's "Terms" name, a function for each sentence. */
public final class TermsEdgesTest {
    private static final int BAD = -1, STATE = -2, FULL = -3, NONE = -4;
    private static final Due DUE = new Due("TermsEdgesTest");

    public static void main(String[] args) {
        fiveHundredAndTwelveCalls();
        firstThatFits();
        sixtyPieces();
        sixtyWithThoseThrownAway();
        sixtyByCuts();
        leastNumbers();
        areaAboveNothing();
        thickness();
        threeToEightCorners();
        firstCorner();
        wholeWhenDoubled();
        sidesGoRound();
        kindsByCorners();
        leans();
        keystones();
        families();
        overlapOrTouch();
        touchAllRound();
        touchAlongHalves();
        DUE.end();
    }

    private static void due(String call, long want, long got) {
        DUE.is(call, want, got);
    }

    /** "An object is used for at most 512 calls." */
    private static void fiveHundredAndTwelveCalls() {
        OctagonYard y = new OctagonYard();
        y.block(4, 4, 1);
        y.assembly();
        y.put(0, 0, false);
        for (int i = 3; i < 510; i++) {
            due("call " + (i + 1), 1, y.move(0, i % 2 == 0 ? 1 : -1, 0));
        }
        due("call 511", 7, y.undo());
        due("call 512", 4, y.bound(0, 0));
    }

    /** "The first that fits": BAD, STATE, FULL, NONE. */
    private static void firstThatFits() {
        OctagonYard y = Shapes.withBlocks(60);
        due("block: BAD and FULL", BAD, y.block(1, 0, 1));
        due("block: FULL", FULL, y.block(1, 1, 1));
        due("cut: BAD, STATE and FULL", BAD, y.cut(0, 0, 4001));
        due("cut: BAD and FULL", BAD, y.cut(0, 4, 2));
        due("cut: STATE and FULL", STATE, y.cut(0, 0, 4000));
        due("cut: FULL", FULL, y.cut(0, 0, 3));
        y.move(1, 500, 0);
        due("touch: BAD and NONE", BAD, y.touch(0, 1, 2));
        due("touch: NONE", NONE, y.touch(0, 1, 1));
        y.rule(0, 6, 2, 0);
        y.rule(6, 0, 3, 0);
        due("meet: BAD and STATE", BAD, y.meet(0, 0));
        due("meet: STATE and UNDECIDED", STATE, y.meet(0, 1));
        for (int i = 3; i < 40; i++) {
            y.rule(5, 5, 1, 0);
        }
        due("rule: BAD and FULL", BAD, y.rule(0, 0, 1, 8));
        due("rule: FULL", FULL, y.rule(0, 0, 1, 7));
        due("above: BAD and NONE", BAD, y.above(6, 0, 99));
        due("above: NONE", NONE, y.above(5, 0, 99));
        Shapes.assemblies(y, 2);
        Shapes.putTimes(y, 0, 0, false, 20);
        due("put: BAD and STATE", BAD, y.put(2, 2, true));
        due("put: BAD and FULL", BAD, y.put(0, 60, false));
        due("put: STATE and FULL", STATE, y.put(0, 0, true));
        due("put: FULL", FULL, y.put(0, 1, true));
        due("walk: BAD and NONE", BAD, y.walk(2, 99));
        due("walk: NONE", NONE, y.walk(1, 99));
    }

    /** "PIECES (60 came at most)", "numbered as they come". */
    private static void sixtyPieces() {
        OctagonYard y = new OctagonYard();
        for (int i = 0; i < 60; i++) {
            due("a number", i, y.block(1, 1, 1));
        }
        due("60 came", FULL, y.block(1, 1, 1));
        due("the last one is there", 8, y.area(59));
        due("none behind it", BAD, y.area(60));
        due("one undone", 7, y.undo());
        due("59 came", 59, y.block(2, 1, 1));
        due("60 came again", FULL, y.block(1, 1, 1));
    }

    /** "Those thrown away, too". */
    private static void sixtyWithThoseThrownAway() {
        OctagonYard y = new OctagonYard();
        for (int i = 0; i < 60; i++) {
            due("a number", i, y.block(1, 1, 1));
            due("thrown away", 1, y.scrap(i));
        }
        due("none is there", 0, y.count(0));
        due("60 came", FULL, y.block(1, 1, 1));
        due("a scrap undone", 7, y.undo());
        due("still 60", FULL, y.block(1, 1, 1));
        due("a block undone", 6, y.undo());
        due("59 came", 59, y.block(1, 1, 1));
    }

    private static void sixtyByCuts() {
        OctagonYard y = new OctagonYard();
        y.block(100, 1, 1);
        for (int i = 1; i < 60; i++) {
            due("a number", i, y.cut(i - 1, 0, i));
        }
        due("60 came", FULL, y.cut(59, 0, 60));
        due("what would be sawn stays", 8 * 41, y.area(59));
        due("nothing is lost", 0, y.waste(0));
        due("a cut undone", 7, y.undo());
        due("the last by a block", 59, y.block(1, 1, 1));
        due("60 came", FULL, y.cut(58, 0, 60));
    }

    /** "Of all such numbers it has the least that tell the same points." */
    private static void leastNumbers() {
        OctagonYard y = new OctagonYard();
        int wedge = Shapes.carve(y, 5, 0, 0, 5, 0);
        // (0,0), (5,0), (0,5).
        bounds(y, "wedge", wedge, 5, 5, 5, 5, 0, 0, 0, 5);
        OctagonYard half = Shapes.sliver();
        // (2,2), (2.5,2.5), (2,3): E0 is the least whole number from 2.5 on.
        bounds(half, "to the right", 3, 3, 3, 5, 0, -2, -2, -4, 1);
        half.turn(3, 0);
        // (-2,2), (-2.5,2.5), (-3,2).
        bounds(half, "upward", 3, -2, 3, 0, -4, 3, -2, 1, 5);
        half.turn(3, 0);
        // (-2,-2), (-2.5,-2.5), (-2,-3).
        bounds(half, "to the left", 3, -2, -2, -4, 1, 3, 3, 5, 0);
        half.turn(3, 0);
        // (2,-2), (2.5,-2.5), (3,-2).
        bounds(half, "downward", 3, 3, -2, 1, 5, -2, 3, 0, -4);
        half.move(3, -3, 3);
        // (-1,1), (-0.5,0.5), (0,1): -y is at most -0.5, so E5 is 0.
        bounds(half, "around 0", 3, 0, 1, 1, -1, 1, 0, 0, 2);
    }

    private static void bounds(OctagonYard y, String which, int p, int... want) {
        for (int k = 0; k < 8; k++) {
            due(which + " E" + k, want[k], y.bound(p, k));
        }
    }

    /** "With an area above 0". */
    private static void areaAboveNothing() {
        OctagonYard y = Shapes.sliver();
        due("the smallest", 2, y.area(3));
        for (int way = 0; way < 4; way++) {
            for (int c = -6; c <= 6; c++) {
                due("it can't be sawn, way " + way + " " + c, STATE, y.cut(3, way, c));
            }
        }
        due("nor was it", 2, y.area(3));
    }

    /** "It has a THICKNESS (1 to 1000) and is of a BLOCK." */
    private static void thickness() {
        OctagonYard y = new OctagonYard();
        due("0", BAD, y.block(3, 3, 0));
        due("1", 0, y.block(3, 3, 1));
        due("1000", 1, y.block(3, 3, 1000));
        due("1001", BAD, y.block(3, 3, 1001));
        due("1 is kept", 1, y.about(0, 2));
        due("1000 is kept", 1000, y.about(1, 2));
        due("a rest", 2, y.cut(1, 0, 1));
        due("a rest of the rest", 3, y.cut(2, 1, 1));
        due("as thick", 1000, y.about(3, 2));
        due("of the first", 1, y.about(3, 3));
        due("a block is of itself", 0, y.about(0, 3));
        y.scrap(1);
        due("though its block's piece is gone", 1, y.about(3, 3));
    }

    /** "Its CORNERS (3 to 8)": the last there is, and the one behind it. */
    private static void threeToEightCorners() {
        int[][] ends = {{0, 0, 4, 0}, {0, 0, 0, 0}, {0, 0, 1, 0}, {0, 1, 1, 0}, {1, 1, 1, 0}, {1, 1, 1, 1}};
        for (int i = 0; i < ends.length; i++) {
            OctagonYard y = new OctagonYard();
            int p = Shapes.carve(y, 4, ends[i][0], ends[i][1], ends[i][2], ends[i][3]);
            int corners = 3 + i;
            due("corners", corners, y.about(p, 1));
            for (int what = 0; what < 2; what++) {
                due(corners + " corners: before the first", 100000, y.corner(p, -1, what));
                DUE.holds(corners + " corners: the first", y.corner(p, 0, what) != 100000);
                DUE.holds(corners + " corners: the last", y.corner(p, corners - 1, what) != 100000);
                due(corners + " corners: behind the last", 100000, y.corner(p, corners, what));
            }
            due(corners + " corners: no side before the first", BAD, y.side(p, -1));
            DUE.holds(corners + " corners: the last side", y.side(p, corners - 1) >= 0);
            due(corners + " corners: no side behind the last", BAD, y.side(p, corners));
        }
    }

    /** "The one with the least x, of two that with the least y, and on from there with the inside on the left." */
    private static void firstCorner() {
        OctagonYard y = new OctagonYard();
        int octagon = Shapes.carve(y, 4, 1, 1, 1, 1);
        corners(y, "two with the least x", octagon, 0, 1, 1, 0, 3, 0, 4, 1, 4, 3, 3, 4, 1, 4, 0, 3);
        int diamond = Shapes.carve(y, 4, 2, 2, 2, 2);
        corners(y, "one with the least x", diamond, 0, 2, 2, 0, 4, 2, 2, 4);
        int low = Shapes.carve(y, 4, 0, 0, 4, 0);
        corners(y, "the least x low", low, 0, 0, 4, 0, 0, 4);
        int high = Shapes.carve(y, 4, 4, 0, 0, 0);
        corners(y, "the least x high, alone", high, 0, 4, 4, 0, 4, 4);
        y.turn(high, 1);
        corners(y, "mirrored, still inside on the left", high, -4, 0, 0, 4, -4, 4);
    }

    private static void corners(OctagonYard y, String which, int p, int... want) {
        due(which + ": corners", want.length / 2, y.about(p, 1));
        for (int i = 0; i < want.length; i++) {
            due(which + ": corner " + i / 2 + " " + i % 2, 2 * want[i], y.corner(p, i / 2, i % 2));
        }
    }

    /** "Their doubled numbers whole". */
    private static void wholeWhenDoubled() {
        OctagonYard y = Shapes.sliver();
        int[] sliver = {4, 4, 5, 5, 4, 6};
        int[] rest = {0, 10, 5, 5, 10, 10};
        for (int i = 0; i < 6; i++) {
            due("sliver " + i, sliver[i], y.corner(3, i / 2, i % 2));
            due("rest " + i, rest[i], y.corner(2, i / 2, i % 2));
        }
        y.turn(3, 1);
        due("below 0", -5, y.corner(3, 0, 0));
        y.move(3, 3, -3);
        due("moved by whole numbers", 1, y.corner(3, 0, 0));
        due("moved by whole numbers", -1, y.corner(3, 0, 1));
    }

    /** "The last one's goes to the first"; "a SIDE's direction is k (0 to 7), if E k holds on it as =". */
    private static void sidesGoRound() {
        OctagonYard y = new OctagonYard();
        sides(y, "octagon", Shapes.carve(y, 4, 1, 1, 1, 1), 6, 5, 3, 0, 2, 1, 7, 4);
        sides(y, "box", Shapes.carve(y, 4, 0, 0, 0, 0), 5, 0, 1, 4);
        sides(y, "diamond", Shapes.carve(y, 4, 2, 2, 2, 2), 6, 3, 2, 7);
        sides(y, "the last goes down the left", Shapes.carve(y, 4, 0, 0, 4, 0), 5, 2, 4);
        sides(y, "the last goes along the top", Shapes.carve(y, 4, 4, 0, 0, 0), 6, 0, 1);
    }

    private static void sides(OctagonYard y, String which, int p, int... want) {
        for (int i = 0; i < want.length; i++) {
            due(which + ": side " + i, want[i], y.side(p, i));
        }
        due(which + ": no more", BAD, y.side(p, want.length));
    }

    private static int kind(int size, int southWest, int southEast, int northEast, int northWest) {
        OctagonYard y = new OctagonYard();
        return y.about(Shapes.carve(y, size, southWest, southEast, northEast, northWest), 0);
    }

    /** "KINDS, the first that fits": 3, 4, 5 and 6, 7 and 8 CORNERS. */
    private static void kindsByCorners() {
        due("3 corners", 2, kind(4, 0, 0, 4, 0));
        due("4 corners", 0, kind(4, 0, 0, 0, 0));
        due("5 corners", 4, kind(4, 0, 0, 1, 0));
        due("6 corners", 4, kind(4, 0, 1, 1, 0));
        due("6 corners, three pairs of opposite sides", 4, kind(4, 1, 0, 1, 0));
        due("7 corners", 5, kind(4, 1, 1, 1, 0));
        due("8 corners", 5, kind(4, 1, 1, 1, 1));
        due("the wedge of halves", 2, Shapes.sliver().about(3, 0));
        OctagonYard y = new OctagonYard();
        y.block(1, 1000, 1);
        y.turn(0, 0);
        y.turn(0, 2);
        due("a slab however it is turned", 0, y.about(0, 0));
    }

    /** "Each SIDE's opposite one has the opposite direction (k and k + 4 modulo 8)", all five pairs of pairs. */
    private static void leans() {
        due("2, 6 and 3, 7", 1, kind(4, 2, 2, 2, 2));
        OctagonYard square = new OctagonYard();
        square.block(2, 2, 1);
        due("0, 4 and 1, 5 is a slab first", 0, square.about(0, 0));
        for (int way = 2; way < 4; way++) {
            OctagonYard wide = new OctagonYard();
            wide.block(9, 2, 1);
            int part = wide.cut(0, way, way == 2 ? 3 : 1);
            wide.cut(part, way, way == 2 ? 6 : 4);
            due("1, 5 and " + way, 1, wide.about(part, 0));
            due("it has four corners", 4, wide.about(part, 1));
            wide.turn(part, 0);
            due("0, 4 and the other slant", 1, wide.about(part, 0));
            wide.turn(part, 1);
            due("mirrored", 1, wide.about(part, 0));
        }
    }

    /** KEYSTONE: 4 CORNERS and neither SLAB nor LEAN. */
    private static void keystones() {
        OctagonYard y = new OctagonYard();
        y.block(9, 2, 1);
        y.cut(0, 2, 8);
        due("one slant", 3, y.about(0, 0));
        y.cut(0, 3, 4);
        due("cut to two", 3, y.about(0, 0));
        y.block(9, 3, 1);
        y.cut(3, 3, 5);
        int part = y.cut(3, 2, 3);
        due("two slants, one pair", 3, y.about(part, 0));
        due("four corners", 4, y.about(part, 1));
    }

    /** "SLAB, LEAN under 6; WEDGE, KEYSTONE under 7; COFFIN, DRUM under 8." */
    private static void families() {
        OctagonYard y = new OctagonYard();
        due("slab", 6, y.about(Shapes.carve(y, 4, 0, 0, 0, 0), 4));
        due("lean", 6, y.about(Shapes.carve(y, 4, 2, 2, 2, 2), 4));
        due("wedge", 7, y.about(Shapes.carve(y, 4, 0, 0, 4, 0), 4));
        due("keystone", 7, y.about(Shapes.carve(y, 4, 0, 0, 4, 2), 4));
        due("coffin of 5", 8, y.about(Shapes.carve(y, 4, 0, 0, 1, 0), 4));
        due("coffin of 6", 8, y.about(Shapes.carve(y, 4, 1, 0, 1, 0), 4));
        due("drum of 7", 8, y.about(Shapes.carve(y, 4, 1, 1, 1, 0), 4));
        due("drum of 8", 8, y.about(Shapes.carve(y, 4, 1, 1, 1, 1), 4));
    }

    /** "Two PIECES OVERLAP, if a point lies within both": one within, alike, a half in common. */
    private static void overlapOrTouch() {
        OctagonYard y = new OctagonYard();
        y.block(4, 4, 1);
        y.block(4, 4, 1);
        y.block(1, 1, 1);
        due("alike", 2, y.near(0, 1));
        due("alike, no touch", NONE, y.touch(0, 1, 0));
        due("within, on two sides", 2, y.near(0, 2));
        due("around", 2, y.near(2, 0));
        y.move(2, 1, 1);
        due("wholly within", 2, y.near(0, 2));
        y.move(1, 3, 3);
        due("by one", 2, y.near(0, 1));
        y.move(1, 1, 1);
        due("a point", 0, y.near(0, 1));
        due("a point is no touch", NONE, y.touch(0, 1, 1));
        y.move(1, 0, -1);
        due("a side of one", 1, y.near(0, 1));
        due("its length", 2, y.touch(0, 1, 1));
        y.move(1, 1, 0);
        due("a gap", 0, y.near(0, 1));
        // Crossed like a plus: no corner of the one within the other.
        OctagonYard plus = new OctagonYard();
        plus.block(9, 1, 1);
        plus.block(1, 9, 1);
        plus.move(1, 4, -4);
        due("crossed", 2, plus.near(0, 1));
        due("crossed", 2, plus.near(1, 0));
        // The sliver reaches half a unit into the box.
        OctagonYard half = Shapes.sliver();
        half.block(2, 2, 1);
        half.move(4, 2, 1);
        due("by a quarter of a unit", 2, half.near(3, 4));
        half.move(4, 1, 0);
        due("half a unit off", 0, half.near(3, 4));
    }

    /** The same octagon beside itself in each direction: touching whole, by half, at a point, not; overlapping. */
    private static void touchAllRound() {
        int[][] beside = {{6, 0}, {0, 6}, {4, 4}, {4, -4}, {-6, 0}, {0, -6}, {-4, -4}, {-4, 4}};
        int[][] along = {{0, 1}, {1, 0}, {1, -1}, {1, 1}, {0, 1}, {1, 0}, {1, -1}, {1, 1}};
        for (int k = 0; k < 8; k++) {
            OctagonYard y = new OctagonYard();
            int a = Shapes.carve(y, 6, 2, 2, 2, 2);
            int b = Shapes.carve(y, 6, 2, 2, 2, 2);
            y.move(b, beside[k][0], beside[k][1]);
            touching(y, "whole", a, b, k, 4);
            y.move(b, along[k][0], along[k][1]);
            touching(y, "half", a, b, k, 2);
            y.move(b, along[k][0], along[k][1]);
            due("at a point " + k, 0, y.near(a, b));
            due("at a point " + k, NONE, y.touch(a, b, 0));
            y.move(b, -3 * along[k][0], -3 * along[k][1]);
            touching(y, "half, the other end", a, b, k, 2);
            y.move(b, -along[k][0], -along[k][1]);
            due("at the other point " + k, 0, y.near(a, b));
            y.move(b, 2 * along[k][0], 2 * along[k][1]);
            int x = Integer.signum(beside[k][0]), up = Integer.signum(beside[k][1]);
            y.move(b, x, up);
            due("a gap " + k, 0, y.near(a, b));
            y.move(b, -2 * x, -2 * up);
            due("overlapping " + k, 2, y.near(a, b));
            due("overlapping " + k, NONE, y.touch(a, b, 1));
        }
    }

    private static void touching(OctagonYard y, String how, int a, int b, int direction, int length) {
        due(how + ": near " + direction, 1, y.near(a, b));
        due(how + ": direction " + direction, direction, y.touch(a, b, 0));
        due(how + ": from the other", (direction + 4) % 8, y.touch(b, a, 0));
        due(how + ": length " + direction, length, y.touch(a, b, 1));
        due(how + ": length from the other", length, y.touch(b, a, 1));
    }

    /** "By how much x differs, doubled; of directions 0, 4 by how much y does": down to a half. */
    private static void touchAlongHalves() {
        OctagonYard y = Shapes.sliver();
        touching(y, "half a unit", 3, 2, 2, 1);
        touching(y, "half a unit", 3, 1, 3, 1);
        touching(y, "y on the left", 3, 0, 4, 2);
        due("the rests meet along it", 5, y.touch(1, 2, 1));
        due("the block's rest beside the other", 4, y.touch(0, 1, 1));
    }
}
