/** The boundary cases of promises 23 to 31: rows that are empty and full, nests, what rests, what is undone. */
public final class AssemblyEdgesTest {
    private static final int BAD = -1, STATE = -2, FULL = -3, NONE = -4;
    private static final int LOW = Integer.MIN_VALUE, HIGH = Integer.MAX_VALUE;
    private static final Due DUE = new Due("AssemblyEdgesTest");

    public static void main(String[] args) {
        noAssembly();
        twelveAssemblies();
        emptyOnes();
        twentyInARow();
        withinItself();
        notWithinItself();
        fiveHundredInOne();
        fiveHundredByMultiplying();
        fiveHundredAndOneByMultiplying();
        walkInOrder();
        walkNumbers();
        weights();
        prices();
        pricesByCorners();
        groundLevel();
        groundLevelByHalves();
        restingOnAnother();
        restingOnSlants();
        restingOnWhatIsWalked();
        firstThatDoesNotRest();
        undoOfEach();
        undoOfNoneToNine();
        undoRing();
        undoNotOfOthers();
        undoWhatStands();
        undoGivesNumbersBack();
        counts();
        DUE.end();
    }

    private static void due(String call, long want, long got) {
        DUE.is(call, want, got);
    }

    /** "There is no such ASSEMBLY": in a new object, and around those that came. */
    private static void noAssembly() {
        OctagonYard y = Shapes.withBlocks(2);
        for (int made = 0; made <= 12; made++) {
            for (int a : new int[] {LOW, -1, made, 12, HIGH}) {
                due("24 into " + a, BAD, y.put(a, 0, false));
                due("24 what " + a, BAD, y.put(0, a, true));
                due("25 " + a, BAD, y.walked(a));
                due("26 " + a, BAD, y.walk(a, 0));
                due("27 " + a, BAD, y.weight(a));
                due("28 " + a, BAD, y.price(a));
                due("29 " + a, BAD, y.check(a));
            }
            due("23 a number", made < 12 ? made : FULL, y.assembly());
        }
    }

    /** 23: "ASSEMBLIES (12)". */
    private static void twelveAssemblies() {
        OctagonYard y = Shapes.withBlocks(1);
        for (int i = 0; i < 12; i++) {
            due("31 so many", i, y.count(2));
            due("23 a number", i, y.assembly());
        }
        due("31 twelve", 12, y.count(2));
        due("23 full", FULL, y.assembly());
        due("23 full", FULL, y.assembly());
        due("31 still twelve", 12, y.count(2));
        due("24 into the last", 1, y.put(11, 0, false));
        due("24 the last into the first", 1, y.put(0, 11, true));
        due("25 it is walked", 1, y.walked(0));
    }

    /** Two empty ones, and twelve, each twenty times in the next: walked at once. */
    private static void emptyOnes() {
        OctagonYard y = new OctagonYard();
        Shapes.assemblies(y, 2);
        y.put(1, 0, true);
        for (int a = 0; a < 2; a++) {
            due("25 none", 0, y.walked(a));
            due("26 none", NONE, y.walk(a, 0));
            due("27 nothing", 0, y.weight(a));
            due("28 nothing", 0, y.price(a));
            due("29 all rest", NONE, y.check(a));
        }
        OctagonYard deep = Shapes.withBlocks(1);
        Shapes.assemblies(deep, 12);
        for (int outer = 1; outer < 12; outer++) {
            Shapes.putTimes(deep, outer, outer - 1, true, 20);
        }
        due("25 none", 0, deep.walked(11));
        due("26 none", NONE, deep.walk(11, 0));
        due("27 nothing", 0, deep.weight(11));
        due("24 20 to the 11th would be walked", FULL, deep.put(0, 0, false));
        due("25 none", 0, deep.walked(0));
    }

    /** "Rows of up to 20 PIECES, ASSEMBLIES". */
    private static void twentyInARow() {
        OctagonYard y = Shapes.withBlocks(2);
        Shapes.assemblies(y, 3);
        for (int i = 1; i <= 20; i++) {
            due("24 how many", i, i % 2 == 0 ? y.put(0, i % 4 / 2, false) : y.put(0, 1, true));
        }
        due("24 a piece more", FULL, y.put(0, 0, false));
        due("24 an assembly more", FULL, y.put(0, 2, true));
        due("25 ten pieces", 10, y.walked(0));
        due("24 the full one into another", 1, y.put(2, 0, true));
        due("24 what stands in the full one may grow", 1, y.put(1, 0, false));
        due("25 at ten places", 20, y.walked(0));
        due("25 and from outside", 20, y.walked(2));
    }

    /** 24: "STATE: it would be within itself": at once, by one, by eleven between. */
    private static void withinItself() {
        OctagonYard y = Shapes.withBlocks(1);
        Shapes.assemblies(y, 12);
        for (int a = 0; a < 12; a++) {
            due("24 itself " + a, STATE, y.put(a, a, true));
        }
        for (int outer = 1; outer < 12; outer++) {
            due("24 one into the next", 1, y.put(outer, outer - 1, true));
        }
        for (int inner = 0; inner < 12; inner++) {
            for (int outer = inner; outer < 12; outer++) {
                due("24 " + outer + " into " + inner, STATE, y.put(inner, outer, true));
            }
        }
        due("24 nothing was put", 1, y.put(0, 0, false));
        due("25 once in all", 1, y.walked(11));
        due("26 twelve deep", 0, y.walk(11, 0));
        due("27 twelve deep", 8 * 16, y.weight(11));
        due("24 further out is fine", 2, y.put(11, 0, true));
        due("25 twice now", 2, y.walked(11));
    }

    /** The number of a PIECE is not that of an ASSEMBLY; the same one twice or by two ways is fine. */
    private static void notWithinItself() {
        OctagonYard y = Shapes.withBlocks(1);
        Shapes.assemblies(y, 4);
        due("24 piece 0 into assembly 0", 1, y.put(0, 0, false));
        due("24 3 into 1", 1, y.put(1, 3, true));
        due("24 3 into 2", 1, y.put(2, 3, true));
        due("24 1 into 0", 2, y.put(0, 1, true));
        due("24 2 into 0", 3, y.put(0, 2, true));
        due("24 3 into 0", 4, y.put(0, 3, true));
        due("24 3 into 0 again", 5, y.put(0, 3, true));
        due("24 1 into 2", 2, y.put(2, 1, true));
        due("24 2 into 1 no more", STATE, y.put(1, 2, true));
        due("24 a piece into 3", 1, y.put(3, 0, false));
        due("25 1", 1, y.walked(1));
        due("25 2", 2, y.walked(2));
        due("25 0: 1 and 1 and 2 and 1 and 1", 6, y.walked(0));
    }

    /** "More than 500 PIECES would be WALKED in any": 499, 500, 501. */
    private static void fiveHundredInOne() {
        OctagonYard y = Shapes.withBlocks(1);
        Shapes.assemblies(y, 6);
        Shapes.putTimes(y, 0, 0, false, 20);
        Shapes.putTimes(y, 1, 0, true, 12);
        Shapes.putTimes(y, 2, 1, true, 2);
        Shapes.putTimes(y, 3, 0, false, 19);
        due("24 499 in 2", 3, y.put(2, 3, true));
        due("25 499", 499, y.walked(2));
        due("24 an empty one", 4, y.put(2, 4, true));
        due("24 499 in 5", 1, y.put(5, 2, true));
        due("24 19 more would be 518", FULL, y.put(5, 3, true));
        due("24 the 500th", 5, y.put(2, 0, false));
        due("25 500", 500, y.walked(2));
        due("25 500 outside, too", 500, y.walked(5));
        due("24 the 501st", FULL, y.put(2, 0, false));
        due("24 outside", FULL, y.put(5, 0, false));
        due("24 within, twice two more", FULL, y.put(1, 0, false));
        due("24 deeper", FULL, y.put(3, 0, false));
        due("24 in the empty one", FULL, y.put(4, 0, false));
        due("24 the whole into what stands in it", STATE, y.put(4, 2, true));
        due("24 an empty one more", 6, y.put(2, 4, true));
        due("26 the 500th", 0, y.walk(2, 499));
        due("26 no 501st", NONE, y.walk(2, 500));
        due("25 240 as before", 240, y.walked(1));
        due("25 19 as before", 19, y.walked(3));
        due("25 0 as before", 0, y.walked(4));
    }

    /** One PIECE put at 500 places at once: 20 times 20, and 5 times 20. */
    private static void fiveHundredByMultiplying() {
        OctagonYard y = multiplied();
        due("24 the first", 1, y.put(0, 0, false));
        due("25 in 1", 20, y.walked(1));
        due("25 in 2", 400, y.walked(2));
        due("25 in 3", 500, y.walked(3));
        due("26 the last", 0, y.walk(3, 499));
        due("24 a second", FULL, y.put(0, 0, false));
        due("25 in 0 as before", 1, y.walked(0));
        due("24 in another one", 1, y.put(4, 0, false));
    }

    /** The same, but at 501 places. */
    private static void fiveHundredAndOneByMultiplying() {
        OctagonYard y = multiplied();
        due("24 once more", 7, y.put(3, 0, true));
        due("24 501 at once", FULL, y.put(0, 0, false));
        for (int a = 0; a < 4; a++) {
            due("25 nowhere", 0, y.walked(a));
        }
        due("24 the row of 1 is full", FULL, y.put(1, 0, true));
        due("24 beside", 8, y.put(3, 0, false));
        due("25 one", 1, y.walked(3));
    }

    private static OctagonYard multiplied() {
        OctagonYard y = Shapes.withBlocks(1);
        Shapes.assemblies(y, 5);
        Shapes.putTimes(y, 1, 0, true, 20);
        Shapes.putTimes(y, 2, 1, true, 20);
        y.put(3, 2, true);
        Shapes.putTimes(y, 3, 1, true, 5);
        return y;
    }

    /** "Put later ones behind; a PIECE may stand in them more than once"; "an ASSEMBLY's in its place". */
    private static void walkInOrder() {
        OctagonYard y = Shapes.withBlocks(4);
        Shapes.assemblies(y, 3);
        y.put(0, 3, false);
        y.put(0, 1, true);
        y.put(0, 3, false);
        y.put(1, 2, false);
        y.put(1, 2, true);
        y.put(1, 1, false);
        int[] before = {3, 2, 1, 3};
        for (int i = 0; i < before.length; i++) {
            due("26 before " + i, before[i], y.walk(0, i));
        }
        y.put(2, 0, false);
        y.put(2, 0, false);
        y.put(0, 2, true);
        int[] after = {3, 2, 0, 0, 1, 3, 0, 0};
        for (int i = 0; i < after.length; i++) {
            due("26 after " + i, after[i], y.walk(0, i));
        }
        due("26 no more", NONE, y.walk(0, after.length));
        due("25 so many", after.length, y.walked(0));
    }

    private static void walkNumbers() {
        OctagonYard y = Shapes.withBlocks(1);
        y.assembly();
        y.put(0, 0, false);
        for (int i : new int[] {LOW, -1}) {
            due("26 i " + i, BAD, y.walk(0, i));
        }
        due("26 i 0", 0, y.walk(0, 0));
        for (int i : new int[] {1, 499, 500, HIGH}) {
            due("26 i " + i, NONE, y.walk(0, i));
        }
    }

    /** 27: nothing; the largest sum, 500 times the largest PIECE; as the PIECES are now. */
    private static void weights() {
        OctagonYard y = new OctagonYard();
        y.block(1000, 1000, 1000);
        Shapes.assemblies(y, 3);
        Shapes.putTimes(y, 0, 0, false, 20);
        Shapes.putTimes(y, 1, 0, true, 20);
        y.put(2, 1, true);
        Shapes.putTimes(y, 2, 0, true, 5);
        due("25 500", 500, y.walked(2));
        due("27 the heaviest", 4000000000000L, y.weight(2));
        y.cut(0, 2, 1);
        due("27 one small wedge each", 500L * 4 * 1000, y.weight(2));
        y.undo();
        due("27 whole again", 4000000000000L, y.weight(2));
        y.turn(0, 0);
        y.move(0, 7, 7);
        due("27 wherever it is", 160000000000L, y.weight(0));
        OctagonYard sliver = Shapes.sliver();
        sliver.assembly();
        sliver.put(0, 3, false);
        due("27 the lightest", 2, sliver.weight(0));
    }

    /** 28: the dearest sum, the cheapest PIECE, a PIECE for each time it is WALKED. */
    private static void prices() {
        OctagonYard y = new OctagonYard();
        y.block(9, 9, 1000);
        y.cut(0, 2, 17);
        y.cut(0, 3, 8);
        int p = y.cut(0, 2, 1);
        p = y.cut(p, 3, -8);
        Shapes.assemblies(y, 3);
        due("28 nothing", 0, y.price(0));
        y.put(0, p, false);
        due("28 the dearest", 24 + 8 + 1000 + 10, y.price(0));
        Shapes.putTimes(y, 0, p, false, 19);
        due("28 twenty times", 20 * 1042, y.price(0));
        Shapes.putTimes(y, 1, 0, true, 20);
        y.put(2, 1, true);
        Shapes.putTimes(y, 2, 0, true, 5);
        due("28 500 times", 500 * 1042, y.price(2));
    }

    /** 28: "3 for each CORNER, 2 for each SIDE of direction 2, 3, 6, 7, and its THICKNESS; under MANY 10 more". */
    private static void pricesByCorners() {
        int[][] ends = {{0, 0, 4, 0}, {0, 0, 0, 0}, {0, 0, 4, 2}, {2, 2, 2, 2}, {0, 0, 1, 0}, {0, 1, 1, 0}, {1, 1, 1, 0},
            {1, 1, 1, 1}};
        int[] want = {9 + 2 + 1, 12 + 1, 12 + 4 + 1, 12 + 8 + 1, 15 + 2 + 1 + 10, 18 + 4 + 1 + 10, 21 + 6 + 1 + 10,
            24 + 8 + 1 + 10};
        for (int i = 0; i < ends.length; i++) {
            OctagonYard y = new OctagonYard();
            int p = Shapes.carve(y, 4, ends[i][0], ends[i][1], ends[i][2], ends[i][3]);
            y.assembly();
            y.put(0, p, false);
            due("28 " + y.about(p, 1) + " corners", want[i], y.price(0));
            for (int turns = 0; turns < 3; turns++) {
                y.turn(p, 0);
                due("28 turned", want[i], y.price(0));
            }
        }
    }

    /** 29: "no point at y = 0 or below": a SIDE or a CORNER at 0, one above, one below. */
    private static void groundLevel() {
        OctagonYard y = new OctagonYard();
        int box = Shapes.carve(y, 4, 0, 0, 0, 0);
        int diamond = Shapes.carve(y, 4, 2, 2, 2, 2);
        Shapes.assemblies(y, 2);
        y.put(0, box, false);
        y.put(1, diamond, false);
        due("29 a side at 0", NONE, y.check(0));
        due("29 a corner at 0", NONE, y.check(1));
        y.move(box, 0, 1);
        y.move(diamond, 0, 1);
        due("29 a side at 1", box, y.check(0));
        due("29 a corner at 1", diamond, y.check(1));
        y.move(box, 0, -2);
        y.move(diamond, 0, -2);
        due("29 a side at -1", NONE, y.check(0));
        due("29 a corner at -1", NONE, y.check(1));
        y.move(box, 0, -1000);
        y.move(diamond, 0, -1000);
        due("29 wholly below", NONE, y.check(0));
        due("29 wholly below", NONE, y.check(1));
    }

    /** A CORNER at y = 1/2 is above 0, though E5 is 0 there. */
    private static void groundLevelByHalves() {
        OctagonYard y = Shapes.sliver();
        for (int i = 0; i < 3; i++) {
            y.turn(3, 0);
        }
        // (2,-2), (2.5,-2.5), (3,-2).
        y.assembly();
        y.put(0, 3, false);
        y.move(3, 0, 3);
        due("29 E5", 0, y.bound(3, 5));
        due("29 half above", 3, y.check(0));
        y.move(3, 0, -1);
        due("29 half below", NONE, y.check(0));
    }

    /** 29: "a SIDE of direction 5 with more than a point in common with a SIDE of direction 1 of another one". */
    private static void restingOnAnother() {
        OctagonYard y = Shapes.withBlocks(2);
        y.assembly();
        y.put(0, 0, false);
        y.put(0, 1, false);
        y.move(1, 0, 4);
        due("29 wholly on it", NONE, y.check(0));
        y.move(1, 3, 0);
        due("29 by one", NONE, y.check(0));
        y.move(1, 1, 0);
        due("29 by a point", 1, y.check(0));
        y.move(1, -7, 0);
        due("29 by one on the other side", NONE, y.check(0));
        y.move(1, -1, 0);
        due("29 by a point on the other side", 1, y.check(0));
        y.move(1, 4, 1);
        due("29 a gap", 1, y.check(0));
        y.move(1, 0, -2);
        due("29 sunk into it", 1, y.check(0));
        y.move(1, 4, -2);
        due("29 beside it", 1, y.check(0));
        y.move(1, -4, -5);
        due("29 below it", NONE, y.check(0));
        y.move(0, 0, 1);
        y.move(1, 0, -1);
        due("29 a gap below it", 0, y.check(0));
    }

    /** Neither a CORNER on a SIDE nor a slant on a slant is rest. */
    private static void restingOnSlants() {
        OctagonYard y = new OctagonYard();
        int base = Shapes.carve(y, 4, 0, 0, 0, 0);
        int diamond = Shapes.carve(y, 4, 2, 2, 2, 2);
        y.assembly();
        y.put(0, base, false);
        y.put(0, diamond, false);
        y.move(diamond, 0, 4);
        due("29 a corner on a side", diamond, y.check(0));
        OctagonYard slants = new OctagonYard();
        slants.block(4, 4, 1);
        slants.cut(0, 2, 4);
        slants.assembly();
        slants.put(0, 0, false);
        slants.put(0, 1, false);
        due("29 its corner is at 0", NONE, slants.check(0));
        slants.move(0, 0, 1);
        slants.move(1, 0, 1);
        due("29 the lower one first", 0, slants.check(0));
        slants.move(0, 0, -1);
        slants.move(1, 1, -2);
        due("29 touching along the slant, sunk", NONE, slants.check(0));
        slants.move(1, -2, 2);
        due("29 touching along the slant, a unit up", 1, slants.near(0, 1));
        due("29 that is no rest", 1, slants.check(0));
    }

    /** "Of another one that is WALKED": in the same walk, however deep; not itself, not in another ASSEMBLY alone. */
    private static void restingOnWhatIsWalked() {
        OctagonYard y = Shapes.withBlocks(3);
        Shapes.assemblies(y, 4);
        y.move(1, 0, 4);
        y.put(0, 1, false);
        y.put(1, 0, false);
        due("29 what it rests on is in another", 1, y.check(0));
        y.put(0, 1, false);
        due("29 itself twice is not another", 1, y.check(0));
        y.put(0, 2, true);
        y.put(2, 3, true);
        due("29 empty ones carry nothing", 1, y.check(0));
        y.put(3, 1, true);
        due("29 three deep, and behind it", NONE, y.check(0));
        y.move(0, 0, 1);
        due("29 it went up", 1, y.check(0));
        y.undo();
        due("29 and back", NONE, y.check(0));
        y.cut(0, 1, 2);
        due("29 its top was sawn off", 1, y.check(0));
        y.put(3, 3, false);
        due("29 the top stands there, too", NONE, y.check(0));
    }

    private static void firstThatDoesNotRest() {
        OctagonYard y = Shapes.withBlocks(4);
        Shapes.assemblies(y, 2);
        for (int p = 1; p < 4; p++) {
            y.move(p, 100 * p, 1);
        }
        y.put(0, 0, false);
        y.put(0, 1, true);
        y.put(0, 1, false);
        y.put(1, 0, false);
        due("29 1, behind all", 1, y.check(0));
        y.put(1, 3, false);
        due("29 3, within", 3, y.check(0));
        y.put(1, 2, false);
        due("29 still 3", 3, y.check(0));
        y.move(3, 0, -1);
        due("29 then 2", 2, y.check(0));
        y.move(2, 0, -1);
        due("29 then 1", 1, y.check(0));
        y.move(1, 0, -1);
        due("29 then none", NONE, y.check(0));
    }

    /** 30: each of the five; the numbers told are how many more can be. */
    private static void undoOfEach() {
        OctagonYard y = new OctagonYard();
        y.block(4, 4, 3);
        due("30 a block", 0, y.undo());
        due("30 gone", BAD, y.area(0));
        due("31 none came", 0, y.count(3));
        y.block(4, 6, 3);
        y.cut(0, 3, 1);
        due("30 a cut", 1, y.undo());
        due("30 whole", 8 * 24, y.area(0));
        due("30 no rest", BAD, y.area(1));
        y.move(0, 5, 5);
        due("30 a move", 1, y.undo());
        due("30 at 0", 0, y.bound(0, 4));
        for (int way = 0; way < 3; way++) {
            y.turn(0, way);
            due("30 a turn " + way, 1, y.undo());
            due("30 x", 4, y.bound(0, 0));
            due("30 y", 6, y.bound(0, 1));
        }
        y.scrap(0);
        due("30 a scrap", 1, y.undo());
        due("30 back", 8 * 24, y.area(0));
        due("30 as thick", 3, y.about(0, 2));
        due("30 the block", 0, y.undo());
        due("30 no more", NONE, y.undo());
    }

    /** 30: "of the latest 8 that were not refused": after none to ten of them. */
    private static void undoOfNoneToNine() {
        for (int made = 0; made <= 10; made++) {
            OctagonYard y = Shapes.withBlocks(made);
            due("refused", BAD, y.block(0, 1, 1));
            due("refused", BAD, y.move(made, 1, 1));
            due("refused", BAD, y.scrap(-1));
            int more = Math.min(made, 8);
            for (int i = more - 1; i >= 0; i--) {
                due("30 of " + made, i, y.undo());
            }
            due("30 no more of " + made, NONE, y.undo());
            due("30 again no more of " + made, NONE, y.undo());
            due("31 what is left of " + made, made - more, y.count(0));
        }
    }

    /** The eight wrap around many times: each undo is of the latest that is left. */
    private static void undoRing() {
        OctagonYard y = Shapes.withBlocks(1);
        int at = 4;
        for (int round = 0; round < 13; round++) {
            for (int i = 1; i <= 11; i++) {
                y.move(0, i, 0);
            }
            at += 66;
            due("30 all of round " + round, at, y.bound(0, 0));
            for (int i = 11; i > 11 - round % 9; i--) {
                due("30 round " + round, i - 4, y.undo());
                at -= i;
                due("30 where it was", at, y.bound(0, 0));
            }
        }
    }

    /** What is no block(), cut(), move(), turn(), scrap() is not undone, nor does it stand between. */
    private static void undoNotOfOthers() {
        OctagonYard y = Shapes.withBlocks(2);
        y.rule(0, 0, 7, 1);
        y.pack(1, false);
        Shapes.assemblies(y, 2);
        y.put(0, 0, false);
        y.put(1, 0, true);
        due("30 the second block", 1, y.undo());
        due("31 rules", 2, y.count(1));
        due("18 the pack is off", 0, y.pack(1, true));
        due("31 assemblies", 2, y.count(2));
        due("25 walked", 1, y.walked(1));
        due("30 an undo is not undone", STATE, y.undo());
        due("31 one is there", 1, y.count(0));
    }

    /** 30: "STATE: the PIECE that came by it stands in an ASSEMBLY." */
    private static void undoWhatStands() {
        OctagonYard y = Shapes.withBlocks(2);
        Shapes.assemblies(y, 2);
        y.put(0, 0, false);
        y.put(1, 0, true);
        due("30 the second stands in none", 1, y.undo());
        due("30 the first stands", STATE, y.undo());
        due("30 still", STATE, y.undo());
        y.cut(0, 0, 1);
        due("27 what stands was sawn", 8 * 4, y.weight(1));
        due("30 the rest stands in none, what was sawn does", 1, y.undo());
        due("27 whole again", 8 * 16, y.weight(1));
        y.cut(0, 0, 1);
        y.put(0, 1, false);
        due("30 the rest stands", STATE, y.undo());
        y.move(1, 1, 1);
        y.turn(0, 1);
        due("30 a turn of what stands", 3, y.undo());
        due("30 a move of what stands", 2, y.undo());
        due("30 the rest still stands", STATE, y.undo());
        due("30 nothing changed", 8 * 12, y.area(1));
        due("30 how many could be is as before", 1, y.move(0, 0, 0));
        due("30 how many could be is as before", 2, y.undo());
        // The number of an ASSEMBLY within a row is not that of a PIECE.
        OctagonYard z = Shapes.withBlocks(2);
        Shapes.assemblies(z, 2);
        z.put(0, 1, true);
        due("30 assembly 1 stands there, not piece 1", 1, z.undo());
        // What stands in the way falls off the end when eight others came.
        OctagonYard old = Shapes.withBlocks(1);
        old.assembly();
        old.put(0, 0, false);
        for (int i = 0; i < 8; i++) {
            old.move(0, 1, 0);
        }
        for (int i = 7; i >= 0; i--) {
            due("30 a move", i, old.undo());
        }
        due("30 the block is not among the latest 8", NONE, old.undo());
    }

    /** What came by an undone call did not come: its number is the next one's, with nothing left of it. */
    private static void undoGivesNumbersBack() {
        OctagonYard y = new OctagonYard();
        y.block(4, 4, 9);
        y.cut(0, 2, 3);
        y.undo();
        due("30 the rest's number", 1, y.block(2, 2, 5));
        due("8 a slab", 0, y.about(1, 0));
        due("8 as thick as told", 5, y.about(1, 2));
        due("8 of itself", 1, y.about(1, 3));
        y.undo();
        due("30 a rest by the same number", 1, y.cut(0, 0, 3));
        due("8 as thick as its block", 9, y.about(1, 2));
        due("8 of its block", 0, y.about(1, 3));
        due("31 one block came", 1, y.count(3));
        y.scrap(0);
        y.undo();
        due("30 a scrap takes no number", 2, y.block(1, 1, 1));
        // A wedge in the place of a taller box: the box's left SIDE is not the wedge's.
        OctagonYard z = Shapes.withBlocks(1);
        z.block(4, 9, 1);
        z.undo();
        due("30 (0,4), (4,0), (4,4)", 1, z.cut(0, 2, 4));
        z.block(4, 4, 1);
        z.move(2, -4, 4);
        due("15 a point alone", 0, z.near(2, 1));
        due("15 a point alone", 0, z.near(1, 2));
    }

    /** 31: what 0 to 3. */
    private static void counts() {
        OctagonYard y = Shapes.withBlocks(2);
        y.cut(0, 0, 1);
        y.cut(0, 1, 1);
        y.scrap(1);
        Shapes.assemblies(y, 3);
        y.rule(0, 0, 1, 0);
        y.rule(0, 0, 1, 0);
        y.rule(0, 0, 1, 0);
        y.rule(0, 0, 1, 0);
        int[] want = {BAD, 3, 5, 3, 2, BAD};
        for (int what = -1; what <= 4; what++) {
            due("31 what " + what, want[what + 1], y.count(what));
        }
        due("31 what least", BAD, y.count(LOW));
        due("31 what most", BAD, y.count(HIGH));
        y.undo();
        due("31 it is back", 4, y.count(0));
        y.undo();
        due("31 a rest less", 3, y.count(0));
        due("31 two blocks", 2, y.count(3));
    }
}
