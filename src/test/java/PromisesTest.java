/** Each promise of the document by hand: ordinary inputs, the edges that it names, wrong inputs. */
public final class PromisesTest {
    private static final int LOW = Integer.MIN_VALUE, HIGH = Integer.MAX_VALUE;
    private static final Due DUE = new Due("PromisesTest");

    public static void main(String[] args) {
        newObject();
        blocks();
        cuts();
        halves();
        moves();
        turns();
        scraps();
        bounds();
        kinds();
        cornersAndSides();
        areas();
        insides();
        wastes();
        nears();
        touches();
        rules();
        packs();
        aboves();
        treating();
        undecidedPairs();
        meets();
        assembliesMade();
        puts();
        putsFull();
        emptyNests();
        deepNest();
        walks();
        weights();
        prices();
        checks();
        undos();
        undoOfEight();
        undoAgainstAssemblies();
        counts();
        DUE.end();
    }

    private static void due(String call, long want, long got) {
        DUE.is(call, want, got);
    }

    /** Cuts a 9 by 9 block to an octagon, PIECE 0; the four ends are 1 to 4. */
    private static OctagonYard octagon() {
        OctagonYard y = new OctagonYard();
        y.block(9, 9, 2);
        y.cut(0, 2, 15);
        y.cut(0, 3, 6);
        y.turn(0, 0);
        y.turn(0, 0);
        y.cut(0, 2, -3);
        y.cut(0, 3, 6);
        return y;
    }

    private static void newObject() {
        OctagonYard y = new OctagonYard();
        due("1 pieces", 0, y.count(0));
        due("1 rules", 1, y.count(1));
        due("1 assemblies", 0, y.count(2));
        due("1 blocks", 0, y.count(3));
        due("1 undo", -4, y.undo());
        due("1 rule 0 treats", 0, y.treats(5, 0));
        due("1 undecided", 0, y.undecided());
        due("1 no second rule", -4, y.above(0, 0, 1));
        due("1 no piece", -1, y.area(0));
        due("1 no assembly", -1, y.walked(0));
        new OctagonYard().block(1, 1, 1);
        due("1 objects are apart", 0, y.count(0));
    }

    private static void blocks() {
        OctagonYard y = new OctagonYard();
        for (int bad : new int[] {LOW, -1, 0, 1001, HIGH}) {
            due("2 w " + bad, -1, y.block(bad, 1, 1));
            due("2 h " + bad, -1, y.block(1, bad, 1));
            due("2 l " + bad, -1, y.block(1, 1, bad));
        }
        due("2 nothing came", 0, y.count(3));
        due("2 least", 0, y.block(1, 1, 1));
        due("2 most", 1, y.block(1000, 1000, 1000));
        due("2 E0", 1000, y.bound(1, 0));
        due("2 E2", 2000, y.bound(1, 2));
        due("2 E4", 0, y.bound(1, 4));
        due("2 thickness", 1000, y.about(1, 2));
        due("2 scrapped ones count", 1, y.scrap(0));
        for (int i = 2; i < 60; i++) {
            due("2 number", i, y.block(2, 2, 2));
        }
        due("2 full", -3, y.block(2, 2, 2));
        due("2 bad ahead of full", -1, y.block(0, 2, 2));
        due("2 cut full", -3, y.cut(1, 0, 5));
        due("2 cut state ahead of full", -2, y.cut(1, 0, 1000));
        due("2 refused changed nothing", 1000, y.bound(1, 0));
        due("2 present", 59, y.count(0));
    }

    private static void cuts() {
        OctagonYard y = new OctagonYard();
        y.block(10, 6, 7);
        due("3 at its edge", -2, y.cut(0, 0, 10));
        due("3 at its other edge", -2, y.cut(0, 0, 0));
        due("3 at a corner", -2, y.cut(0, 2, 16));
        due("3 at the other corner", -2, y.cut(0, 3, -6));
        due("3 far, as told", -2, y.cut(0, 3, 4000));
        due("3 far, as told", -2, y.cut(0, 3, -4000));
        due("3 c beyond", -1, y.cut(0, 3, 4001));
        due("3 c beyond", -1, y.cut(0, 3, -4001));
        due("3 c least", -1, y.cut(0, 3, LOW));
        due("3 way", -1, y.cut(0, 4, 3));
        due("3 way", -1, y.cut(0, -1, 3));
        due("3 way", -1, y.cut(0, LOW, 3));
        due("3 piece", -1, y.cut(1, 0, 3));
        due("3 piece", -1, y.cut(-1, 0, 3));
        due("3 the block alone is undone", 0, y.undo());
        due("3 nothing else came", -4, y.undo());
        y.block(10, 6, 7);
        due("3 x", 1, y.cut(0, 0, 4));
        due("3 keeps at most", 4, y.bound(0, 0));
        due("3 rest from", -4, y.bound(1, 4));
        due("3 rest to", 10, y.bound(1, 0));
        due("3 y", 2, y.cut(1, 1, 1));
        due("3 keeps", 1, y.bound(1, 1));
        due("3 rest", -1, y.bound(2, 5));
        due("3 x - y", 3, y.cut(0, 3, -1));
        due("3 keeps", -1, y.bound(0, 3));
        due("3 rest", 1, y.bound(3, 7));
        due("3 kept is told by the least", -1, y.bound(0, 5));
        due("3 the rest too", 5, y.bound(3, 1));
        due("3 thickness goes on", 7, y.about(3, 2));
        due("3 block goes on", 0, y.about(3, 3));
        due("3 nothing is lost", 0, y.waste(0));
    }

    private static void halves() {
        OctagonYard y = new OctagonYard();
        y.block(5, 5, 1);
        y.cut(0, 3, 0);
        y.cut(0, 2, 5);
        // PIECE 0: (0,0), (2.5,2.5), (0,5).
        due("3 half corner x", 5, y.corner(0, 1, 0));
        due("3 half corner y", 5, y.corner(0, 1, 1));
        due("7 rounded up", 3, y.bound(0, 0));
        due("3 short of the half", -2, y.cut(0, 0, 3));
        due("3 within the half", 3, y.cut(0, 0, 2));
        // PIECE 3: (2,2), (2.5,2.5), (2,3).
        due("11 a sliver", 2, y.area(3));
        due("7 up to the half", 3, y.bound(3, 0));
        due("5 mirrored", 1, y.turn(3, 1));
        due("7 below, rounded up", 3, y.bound(3, 4));
        due("7 from", -2, y.bound(3, 0));
        due("9 first is the half", -5, y.corner(3, 0, 0));
        due("3 no whole x within", -2, y.cut(3, 0, -2));
        due("3 no whole x within", -2, y.cut(3, 0, -3));
    }

    private static void moves() {
        OctagonYard y = new OctagonYard();
        y.block(10, 20, 1);
        due("4 moved", 1, y.move(0, -3, 7));
        due("4 E0", 7, y.bound(0, 0));
        due("4 E1", 27, y.bound(0, 1));
        due("4 E2", 34, y.bound(0, 2));
        due("4 E3", 0, y.bound(0, 3));
        due("4 E4", 3, y.bound(0, 4));
        due("4 E5", -7, y.bound(0, 5));
        due("4 E6", -4, y.bound(0, 6));
        due("4 E7", 30, y.bound(0, 7));
        for (int bad : new int[] {LOW, -1001, 1001, HIGH}) {
            due("4 x " + bad, -1, y.move(0, bad, 0));
            due("4 y " + bad, -1, y.move(0, 0, bad));
        }
        due("4 piece", -1, y.move(1, 0, 0));
        due("4 by nothing", 1, y.move(0, 0, 0));
        due("4 that too is undone", 2, y.undo());
        for (int i = 0; i < 3; i++) {
            due("4 far", 1, y.move(0, 1000, 0));
        }
        due("4 E2 would be 4034", -1, y.move(0, 1000, 0));
        due("4 E2 would be 4001", -1, y.move(0, 967, 0));
        due("4 E2 is 4000", 1, y.move(0, 966, 0));
        due("4 E2", 4000, y.bound(0, 2));
        due("4 E3 would be 4006", -1, y.move(0, 20, -20));
        due("4 along it", 1, y.move(0, 10, -10));
        due("4 E3 would be beyond", -1, y.move(0, 50, -100));
        for (int i = 0; i < 7; i++) {
            y.move(0, -1000, 0);
        }
        due("4 the other end", -1, y.move(0, -1000, 0));
    }

    private static void turns() {
        OctagonYard y = new OctagonYard();
        y.block(5, 3, 1);
        y.cut(0, 2, 7);
        y.move(0, 10, 20);
        // x 10 to 15, y 20 to 23, x + y at most 37.
        due("5 a quarter", 1, y.turn(0, 0));
        int[] quarter = {-20, 15, -5, -30, 23, -10, 13, 37};
        for (int k = 0; k < 8; k++) {
            due("5 quarter E" + k, quarter[k], y.bound(0, k));
        }
        due("5 a quarter", 1, y.turn(0, 0));
        due("5 a quarter", 1, y.turn(0, 0));
        due("5 a quarter", 1, y.turn(0, 0));
        due("5 four are none", 15, y.bound(0, 0));
        due("5 mirrored", 1, y.turn(0, 1));
        int[] mirrored = {-10, 23, 13, -30, 15, -20, -5, 37};
        for (int k = 0; k < 8; k++) {
            due("5 mirrored E" + k, mirrored[k], y.bound(0, k));
        }
        y.turn(0, 1);
        due("5 changed places", 1, y.turn(0, 2));
        int[] changed = {23, 15, 37, 13, -20, -10, -30, -5};
        for (int k = 0; k < 8; k++) {
            due("5 changed E" + k, changed[k], y.bound(0, k));
        }
        due("5 way", -1, y.turn(0, 3));
        due("5 way", -1, y.turn(0, -1));
        due("5 way", -1, y.turn(0, HIGH));
        due("5 piece", -1, y.turn(2, 0));
        due("5 piece", -1, y.turn(LOW, 0));
    }

    private static void scraps() {
        OctagonYard y = new OctagonYard();
        y.block(4, 4, 1);
        y.block(4, 4, 1);
        y.assembly();
        y.put(0, 0, false);
        due("6 stands in one", -2, y.scrap(0));
        due("6 still there", 0, y.about(0, 0));
        due("6 scrapped", 1, y.scrap(1));
        due("6 twice", -1, y.scrap(1));
        due("6 none", -1, y.scrap(2));
        due("6 none", -1, y.scrap(-1));
        due("6 bound", 100000, y.bound(1, 0));
        due("6 cut", -1, y.cut(1, 0, 2));
        due("6 move", -1, y.move(1, 0, 2));
        due("6 turn", -1, y.turn(1, 0));
        due("6 near", -1, y.near(0, 1));
        due("6 put", -1, y.put(0, 1, false));
        due("6 its number is not given again", 2, y.block(1, 1, 1));
    }

    private static void bounds() {
        OctagonYard y = octagon();
        int[] due = {0, 0, -3, 6, 9, 9, 15, 6};
        for (int k = 0; k < 8; k++) {
            due("7 E" + k, due[k], y.bound(0, k));
        }
        due("7 k", 100000, y.bound(0, 8));
        due("7 k", 100000, y.bound(0, -1));
        due("7 k", 100000, y.bound(0, LOW));
        due("7 piece", 100000, y.bound(5, 0));
        due("7 piece", 100000, y.bound(-1, 0));
    }

    private static void kinds() {
        OctagonYard y = octagon();
        due("8 eight corners", 8, y.about(0, 1));
        due("8 drum", 5, y.about(0, 0));
        due("8 many", 8, y.about(0, 4));
        due("8 wedge", 2, y.about(1, 0));
        due("8 slanted", 7, y.about(1, 4));
        due("8 its block", 0, y.about(4, 3));
        due("8 thickness", 2, y.about(4, 2));
        due("8 what", -1, y.about(0, 5));
        due("8 what", -1, y.about(0, -1));
        due("8 piece", -1, y.about(5, 0));
        OctagonYard z = new OctagonYard();
        z.block(9, 9, 1);
        due("8 slab", 0, z.about(0, 0));
        due("8 straight", 6, z.about(0, 4));
        z.cut(0, 2, 16);
        due("8 five corners", 5, z.about(0, 1));
        due("8 coffin of five", 4, z.about(0, 0));
        z.cut(0, 3, 7);
        due("8 coffin of six", 4, z.about(0, 0));
        z.turn(0, 0);
        z.turn(0, 0);
        z.cut(0, 3, 7);
        due("8 seven corners", 7, z.about(0, 1));
        due("8 drum of seven", 5, z.about(0, 0));
        OctagonYard lean = new OctagonYard();
        lean.block(9, 3, 1);
        lean.cut(0, 3, 6);
        due("8 keystone", 3, lean.about(0, 0));
        lean.cut(0, 3, 0);
        due("8 lean of 1, 5 and 3, 7", 1, lean.about(2, 0));
        due("8 lean is straight", 6, lean.about(2, 4));
        OctagonYard diamond = new OctagonYard();
        diamond.block(8, 8, 1);
        diamond.cut(0, 2, 12);
        diamond.cut(0, 3, 4);
        diamond.turn(0, 0);
        diamond.turn(0, 0);
        diamond.cut(0, 2, -4);
        diamond.cut(0, 3, 4);
        due("8 diamond's corners", 4, diamond.about(0, 1));
        due("8 diamond is a lean", 1, diamond.about(0, 0));
        due("8 diamond's first side", 6, diamond.side(0, 0));
    }

    private static void cornersAndSides() {
        OctagonYard y = octagon();
        // x -9 to 0, y -9 to 0, each end cut off by 3.
        int[] xs = {-9, -6, -3, 0, 0, -3, -6, -9};
        int[] ys = {-6, -9, -9, -6, -3, 0, 0, -3};
        int[] directions = {6, 5, 3, 0, 2, 1, 7, 4};
        for (int i = 0; i < 8; i++) {
            due("9 x of " + i, 2 * xs[i], y.corner(0, i, 0));
            due("9 y of " + i, 2 * ys[i], y.corner(0, i, 1));
            due("10 side " + i, directions[i], y.side(0, i));
        }
        due("9 i", 100000, y.corner(0, 8, 0));
        due("9 i", 100000, y.corner(0, -1, 0));
        due("9 i of a wedge", 100000, y.corner(1, 3, 0));
        due("9 what", 100000, y.corner(0, 0, 2));
        due("9 what", 100000, y.corner(0, 0, -1));
        due("9 piece", 100000, y.corner(5, 0, 0));
        due("10 i", -1, y.side(0, 8));
        due("10 i", -1, y.side(0, -1));
        due("10 i of a wedge", -1, y.side(1, 3));
        due("10 piece", -1, y.side(-1, 0));
        OctagonYard box = new OctagonYard();
        box.block(4, 3, 1);
        int[] boxSides = {5, 0, 1, 4};
        for (int i = 0; i < 4; i++) {
            due("10 box " + i, boxSides[i], box.side(0, i));
        }
        due("9 of two with the least x the least y", 0, box.corner(0, 0, 1));
    }

    private static void areas() {
        OctagonYard y = octagon();
        due("11 octagon", 8 * 81 - 4 * 36, y.area(0));
        due("11 wedge", 36, y.area(1));
        due("11 piece", -1, y.area(5));
        due("12 octagon", 2 * (8 * 81 - 4 * 36), y.volume(0));
        due("12 piece", -1, y.volume(5));
        OctagonYard large = new OctagonYard();
        large.block(1000, 1000, 1000);
        due("11 largest", 8000000, large.area(0));
        due("12 largest", 8000000000L, large.volume(0));
        for (int i = 0; i < 2; i++) {
            large.move(0, 1000, -1000);
        }
        due("11 far away", 8000000, large.area(0));
    }

    private static void insides() {
        OctagonYard y = octagon();
        due("13 within", 2, y.inside(0, -9, -9));
        due("13 just within the slant", 2, y.inside(0, -4, -3));
        due("13 on a slant", 1, y.inside(0, -3, -3));
        due("13 outside the slant", 0, y.inside(0, -3, -2));
        due("13 on a side", 1, y.inside(0, 0, -9));
        due("13 a corner", 1, y.inside(0, 0, -6));
        due("13 beside a corner", 0, y.inside(0, 0, -5));
        due("13 beyond", 0, y.inside(0, 1, -9));
        due("13 far", 0, y.inside(0, 10000, -10000));
        for (int bad : new int[] {LOW, -10001, 10001, HIGH}) {
            due("13 x " + bad, -1, y.inside(0, bad, 0));
            due("13 y " + bad, -1, y.inside(0, 0, bad));
        }
        due("13 piece", -1, y.inside(5, 0, 0));
    }

    private static void wastes() {
        OctagonYard y = octagon();
        due("14 none yet", 0, y.waste(0));
        due("14 not by block()", -1, y.waste(1));
        due("14 none came", -1, y.waste(5));
        due("14 none came", -1, y.waste(-1));
        y.block(1, 1, 1);
        y.scrap(1);
        due("14 an end", 36, y.waste(0));
        y.scrap(0);
        due("14 though its piece is gone", 36 + 8 * 81 - 4 * 36, y.waste(0));
        due("14 another block", 0, y.waste(5));
        y.undo();
        due("14 back", 36, y.waste(0));
    }

    private static void nears() {
        OctagonYard y = new OctagonYard();
        y.block(4, 4, 1);
        y.block(2, 2, 1);
        due("15 within", 2, y.near(0, 1));
        y.move(1, 4, 1);
        due("15 touch", 1, y.near(0, 1));
        due("15 touch", 1, y.near(1, 0));
        y.move(1, 0, 3);
        due("15 a corner alone", 0, y.near(0, 1));
        y.move(1, -1, -1);
        due("15 a corner within", 2, y.near(0, 1));
        y.move(1, 5, 5);
        due("15 apart", 0, y.near(0, 1));
        due("15 same", -1, y.near(0, 0));
        due("15 piece", -1, y.near(0, 2));
        due("15 piece", -1, y.near(-1, 0));
        due("15 piece", -1, y.near(7, 7));
        OctagonYard z = octagon();
        due("15 along the cut", 1, z.near(0, 3));
        // A wedge's corner on a slanted side: one point in common.
        OctagonYard point = new OctagonYard();
        point.block(4, 4, 1);
        point.cut(0, 2, 4);
        point.scrap(1);
        point.block(2, 2, 1);
        point.move(2, 2, 2);
        due("15 a corner on a slant", 0, point.near(0, 2));
        point.move(2, -1, 0);
        due("15 over the slant", 2, point.near(0, 2));
    }

    private static void touches() {
        OctagonYard y = new OctagonYard();
        y.block(4, 4, 1);
        y.block(3, 2, 1);
        due("16 overlap", -4, y.touch(0, 1, 0));
        y.move(1, -3, 3);
        due("16 left of it", 4, y.touch(0, 1, 0));
        due("16 from the other", 0, y.touch(1, 0, 0));
        due("16 y counts", 2, y.touch(0, 1, 1));
        due("16 the same from the other", 2, y.touch(1, 0, 1));
        y.move(1, 2, 1);
        due("16 above it", 1, y.touch(0, 1, 0));
        due("16 from above", 5, y.touch(1, 0, 0));
        due("16 x counts", 4, y.touch(0, 1, 1));
        due("16 what", -1, y.touch(0, 1, 2));
        due("16 what", -1, y.touch(0, 1, -1));
        due("16 same", -1, y.touch(0, 0, 0));
        due("16 piece", -1, y.touch(0, 9, 0));
        y.move(1, 10, 10);
        due("16 apart", -4, y.touch(0, 1, 0));
        due("16 apart", -4, y.touch(0, 1, 1));
        due("16 bad ahead of none", -1, y.touch(0, 1, 5));
        OctagonYard z = octagon();
        due("16 slanted", 6, z.touch(0, 3, 1));
        due("16 its direction", 2, z.touch(0, 3, 0));
        due("16 and back", 6, z.touch(3, 0, 0));
        OctagonYard half = new OctagonYard();
        half.block(5, 5, 1);
        half.cut(0, 3, 0);
        half.cut(0, 2, 5);
        due("16 half a length", 5, half.touch(0, 2, 1));
    }

    private static void rules() {
        OctagonYard y = new OctagonYard();
        for (int bad : new int[] {LOW, -1, 10, HIGH}) {
            due("17 first " + bad, -1, y.rule(bad, 0, 1, 0));
            due("17 second " + bad, -1, y.rule(0, bad, 1, 0));
        }
        for (int bad : new int[] {LOW, 0, 100, HIGH}) {
            due("17 joint " + bad, -1, y.rule(0, 0, bad, 0));
        }
        for (int bad : new int[] {LOW, -1, 8, HIGH}) {
            due("17 pack " + bad, -1, y.rule(0, 0, 1, bad));
        }
        due("17 alone", 1, y.count(1));
        due("17 least", 1, y.rule(0, 0, 1, 0));
        due("17 most", 2, y.rule(9, 9, 99, 7));
        for (int i = 3; i < 40; i++) {
            due("17 number", i, y.rule(5, 5, 3, 3));
        }
        due("17 full", -3, y.rule(0, 0, 1, 0));
        due("17 bad ahead of full", -1, y.rule(0, 0, 0, 0));
        due("17 forty", 40, y.count(1));
        due("19 the latest first", 39, y.above(5, 5, 0));
        due("19 the last of them", 3, y.above(5, 5, 36));
        due("19 then the wide ones", 2, y.above(5, 5, 37));
        due("19 rule 0 at last", 0, y.above(5, 5, 38));
        due("19 no more", -4, y.above(5, 5, 39));
    }

    private static void packs() {
        OctagonYard y = new OctagonYard();
        y.rule(0, 0, 5, 7);
        due("18 on at first", 1, y.treats(0, 0));
        due("18 off", 1, y.pack(7, false));
        due("18 off already", 0, y.pack(7, false));
        due("18 it does not count", 0, y.treats(0, 0));
        due("18 on again", 0, y.pack(7, true));
        due("18 it counts", 1, y.treats(0, 0));
        due("18 on", 1, y.pack(7, true));
        due("18 0 on", 1, y.pack(0, true));
        due("18 0 off", -1, y.pack(0, false));
        due("18 n", -1, y.pack(8, true));
        due("18 n", -1, y.pack(-1, false));
        due("18 n", -1, y.pack(LOW, false));
    }

    private static void aboves() {
        OctagonYard y = new OctagonYard();
        y.rule(9, 2, 1, 0);
        y.rule(6, 7, 1, 0);
        y.rule(0, 9, 1, 0);
        y.rule(6, 7, 1, 1);
        y.rule(0, 2, 1, 0);
        int[] order = {5, 3, 4, 2, 1, 0};
        for (int i = 0; i < 6; i++) {
            due("19 the order " + i, order[i], y.above(0, 2, i));
        }
        due("19 no more", -4, y.above(0, 2, 6));
        due("19 no more", -4, y.above(0, 2, HIGH));
        due("19 i", -1, y.above(0, 2, -1));
        due("19 i", -1, y.above(0, 2, LOW));
        due("19 k", -1, y.above(6, 0, 0));
        due("19 k", -1, y.above(-1, 0, 0));
        due("19 l", -1, y.above(0, 6, 0));
        due("19 l", -1, y.above(0, -1, 9));
        y.pack(1, false);
        due("19 without the pack", 2, y.above(0, 2, 2));
        due("19 the family's other", 2, y.above(1, 3, 0));
        due("19 not the other way round", 0, y.above(2, 0, 0));
    }

    private static void treating() {
        OctagonYard y = new OctagonYard();
        y.rule(8, 8, 1, 0);
        due("20 families", 1, y.treats(4, 5));
        y.rule(8, 8, 2, 0);
        due("20 the same steps decide by number", 2, y.treats(4, 5));
        y.rule(9, 4, 2, 0);
        due("20 the same sum, other steps", -5, y.treats(5, 4));
        due("20 not for another", 2, y.treats(4, 5));
        y.rule(5, 8, 2, 0);
        due("20 a nearer one decides", 4, y.treats(5, 4));
        due("20 k", -1, y.treats(6, 0));
        due("20 k", -1, y.treats(-1, 0));
        due("20 l", -1, y.treats(0, 9));
        due("20 l", -1, y.treats(0, LOW));
    }

    private static void undecidedPairs() {
        OctagonYard y = new OctagonYard();
        y.rule(6, 9, 1, 3);
        due("21 none", 0, y.undecided());
        y.rule(9, 7, 1, 0);
        due("21 four pairs", 4, y.undecided());
        y.rule(0, 2, 1, 0);
        due("21 one less", 3, y.undecided());
        y.pack(3, false);
        due("21 without the pack", 0, y.undecided());
        OctagonYard all = new OctagonYard();
        for (int family = 6; family <= 8; family++) {
            all.rule(family, 9, 1, 0);
            all.rule(9, family, 1, 0);
        }
        due("21 all", 36, all.undecided());
    }

    private static void meets() {
        OctagonYard y = octagon();
        due("22 rule 0", 1, y.meet(0, 3));
        y.rule(5, 2, 40, 2);
        y.rule(2, 8, 50, 0);
        due("22 drum, wedge", 40, y.meet(0, 3));
        due("22 wedge, drum", 50, y.meet(3, 0));
        y.rule(7, 5, 60, 0);
        due("22 undecided", -5, y.meet(3, 0));
        y.pack(2, false);
        due("22 without the pack", 1, y.meet(0, 3));
        due("22 apart", -2, y.meet(3, 4));
        y.move(3, -1, -1);
        due("22 overlap", -2, y.meet(0, 3));
        due("22 same", -1, y.meet(0, 0));
        due("22 piece", -1, y.meet(0, 5));
        due("22 piece", -1, y.meet(-1, 0));
    }

    private static void assembliesMade() {
        OctagonYard y = new OctagonYard();
        for (int i = 0; i < 12; i++) {
            due("23 number", i, y.assembly());
        }
        due("23 full", -3, y.assembly());
        due("23 twelve", 12, y.count(2));
    }

    private static void puts() {
        OctagonYard y = new OctagonYard();
        y.block(1, 1, 1);
        for (int i = 0; i < 4; i++) {
            y.assembly();
        }
        due("24 into", -1, y.put(4, 0, false));
        due("24 into", -1, y.put(-1, 0, false));
        due("24 piece", -1, y.put(0, 1, false));
        due("24 piece", -1, y.put(0, -1, false));
        due("24 assembly", -1, y.put(0, 4, true));
        due("24 assembly", -1, y.put(0, LOW, true));
        due("24 itself", -2, y.put(0, 0, true));
        due("24 1 into 0", 1, y.put(0, 1, true));
        due("24 2 into 1", 1, y.put(1, 2, true));
        due("24 3 into 2", 1, y.put(2, 3, true));
        due("24 around", -2, y.put(3, 0, true));
        due("24 around", -2, y.put(2, 0, true));
        due("24 around", -2, y.put(3, 2, true));
        due("24 not around", 2, y.put(0, 3, true));
        due("24 a piece deep within", 1, y.put(3, 0, false));
        due("25 twice from above", 2, y.walked(0));
        for (int i = 2; i <= 20; i++) {
            due("24 how many", i, y.put(3, 0, false));
        }
        due("24 twenty stand there", -3, y.put(3, 0, false));
        due("24 state ahead of full", -2, y.put(3, 0, true));
        due("24 bad ahead of full", -1, y.put(3, 7, false));
        due("25 still twice", 40, y.walked(0));
    }

    private static void putsFull() {
        OctagonYard y = new OctagonYard();
        y.block(1, 1, 1);
        for (int i = 0; i < 4; i++) {
            y.assembly();
        }
        for (int i = 0; i < 20; i++) {
            y.put(0, 0, false);
        }
        for (int i = 0; i < 12; i++) {
            y.put(1, 0, true);
        }
        due("25 240", 240, y.walked(1));
        due("24 240", 1, y.put(2, 1, true));
        due("24 480", 2, y.put(2, 1, true));
        due("24 720 would be", -3, y.put(2, 1, true));
        due("24 500", 3, y.put(2, 0, true));
        due("25 500", 500, y.walked(2));
        due("24 501 would be", -3, y.put(2, 0, false));
        due("24 in another one, too", -3, y.put(1, 0, false));
        due("24 nothing changed", 240, y.walked(1));
        due("24 an empty one", 4, y.put(2, 3, true));
        due("24 that may not grow", -3, y.put(3, 0, false));
        due("25 it is empty", 0, y.walked(3));
        due("26 the last", 0, y.walk(2, 499));
        due("26 no more", -4, y.walk(2, 500));
    }

    /** Empty ones twelve deep, twenty each: 20 to the 11th ways down. */
    private static void emptyNests() {
        OctagonYard y = new OctagonYard();
        y.block(1, 1, 1);
        for (int i = 0; i < 12; i++) {
            y.assembly();
        }
        for (int outer = 1; outer < 12; outer++) {
            for (int i = 0; i < 20; i++) {
                y.put(outer, outer - 1, true);
            }
        }
        due("25 nothing", 0, y.walked(11));
        due("26 nothing", -4, y.walk(11, 0));
        due("27 nothing", 0, y.weight(11));
        due("28 nothing", 0, y.price(11));
        due("29 nothing", -4, y.check(11));
        due("24 around", -2, y.put(0, 11, true));
        due("24 far too many would be", -3, y.put(0, 0, false));
        due("24 nothing changed", 0, y.walked(0));
    }

    /** Each of the twelve in the next one, a PIECE in the first: as deep as can be. */
    private static void deepNest() {
        OctagonYard y = new OctagonYard();
        y.block(1, 2, 3);
        for (int i = 0; i < 12; i++) {
            y.assembly();
        }
        for (int outer = 11; outer > 0; outer--) {
            y.put(outer, outer - 1, true);
        }
        due("24 into the innermost", 1, y.put(0, 0, false));
        due("25 from the outermost", 1, y.walked(11));
        due("26 from the outermost", 0, y.walk(11, 0));
        due("27 from the outermost", 48, y.weight(11));
        y.move(0, 0, 1);
        due("29 from the outermost", 0, y.check(11));
        due("24 around all", -2, y.put(0, 11, true));
    }

    private static void walks() {
        OctagonYard y = new OctagonYard();
        for (int i = 0; i < 4; i++) {
            y.block(1, 1, 1);
        }
        y.assembly();
        y.assembly();
        y.put(0, 1, false);
        y.put(0, 1, true);
        y.put(0, 2, false);
        y.put(1, 3, false);
        y.put(1, 0, false);
        y.put(0, 1, true);
        int[] way = {1, 3, 0, 2, 3, 0};
        for (int i = 0; i < way.length; i++) {
            due("26 " + i, way[i], y.walk(0, i));
        }
        due("25 walked", 6, y.walked(0));
        due("25 walked", 2, y.walked(1));
        due("25 none", -1, y.walked(2));
        due("25 none", -1, y.walked(-1));
        due("26 no more", -4, y.walk(0, 6));
        due("26 no more", -4, y.walk(0, HIGH));
        due("26 i", -1, y.walk(0, -1));
        due("26 a", -1, y.walk(2, 0));
        due("26 a", -1, y.walk(LOW, 0));
    }

    private static void weights() {
        OctagonYard y = new OctagonYard();
        y.block(1000, 1000, 1000);
        y.block(2, 3, 5);
        y.assembly();
        y.assembly();
        due("27 empty", 0, y.weight(0));
        y.put(0, 0, false);
        y.put(0, 1, false);
        for (int i = 0; i < 20; i++) {
            y.put(1, 0, true);
        }
        due("27 one", 8000000240L, y.weight(0));
        due("27 many", 160000004800L, y.weight(1));
        due("27 a", -1, y.weight(2));
        due("27 a", -1, y.weight(-1));
        y.cut(0, 0, 500);
        due("27 sawn", 4000000240L, y.weight(0));
    }

    private static void prices() {
        OctagonYard y = octagon();
        y.assembly();
        due("28 empty", 0, y.price(0));
        y.put(0, 0, false);
        due("28 drum", 24 + 8 + 2 + 10, y.price(0));
        y.put(0, 1, false);
        due("28 and a wedge", 44 + 9 + 2 + 2, y.price(0));
        y.put(0, 1, false);
        due("28 twice", 57 + 13, y.price(0));
        due("28 a", -1, y.price(1));
        due("28 a", -1, y.price(HIGH));
        OctagonYard z = new OctagonYard();
        z.block(9, 9, 100);
        z.cut(0, 2, 16);
        z.assembly();
        z.put(0, 0, false);
        due("28 coffin", 15 + 2 + 100 + 10, z.price(0));
    }

    private static void checks() {
        OctagonYard y = new OctagonYard();
        y.block(4, 2, 1);
        y.block(4, 2, 1);
        y.block(4, 2, 1);
        y.assembly();
        due("29 empty", -4, y.check(0));
        y.put(0, 2, false);
        y.put(0, 1, false);
        y.put(0, 0, false);
        y.move(1, 3, 2);
        y.move(2, 6, 4);
        due("29 stairs", -4, y.check(0));
        y.move(2, 1, 0);
        due("29 a point alone", 2, y.check(0));
        y.move(1, 1, 0);
        due("29 the upper one rests again, the lower one does not", 1, y.check(0));
        y.move(2, 1, 0);
        y.move(2, 3, 0);
        due("29 the first in the walk", 2, y.check(0));
        y.move(2, -5, 0);
        due("29 the one below", 1, y.check(0));
        y.move(1, 0, -2);
        due("29 a gap", 2, y.check(0));
        y.move(2, 0, -5);
        due("29 below the ground", -4, y.check(0));
        due("29 a", -1, y.check(1));
        due("29 a", -1, y.check(-1));
        y.block(4, 4, 1);
        y.assembly();
        y.put(1, 3, false);
        y.move(3, 0, 2);
        due("29 what it rests on is not in it", 3, y.check(1));
        // (0,0), (5,0), (2.5,2.5), turned upside down: its lowest point at 0.5.
        OctagonYard half = new OctagonYard();
        half.block(5, 5, 1);
        half.cut(0, 3, 0);
        half.cut(1, 2, 5);
        half.turn(1, 0);
        half.turn(1, 0);
        half.move(1, 5, 3);
        half.assembly();
        half.put(0, 1, false);
        due("29 lowest corner", 1, half.corner(1, 1, 1));
        due("29 a half above the ground", 1, half.check(0));
        half.move(1, 0, -1);
        due("29 a half below", -4, half.check(0));
    }

    private static void undos() {
        OctagonYard y = new OctagonYard();
        due("30 none", -4, y.undo());
        y.block(6, 6, 4);
        y.cut(0, 3, 1);
        y.move(1, 5, 5);
        y.turn(1, 2);
        y.scrap(1);
        y.block(0, 0, 0);
        y.rule(0, 0, 1, 0);
        y.assembly();
        y.cut(0, 0, 99);
        due("30 the scrap", 4, y.undo());
        due("30 it is back", -1, y.bound(1, 3));
        due("30 the turn", 3, y.undo());
        due("30 x - y again", -1, y.bound(1, 7));
        due("30 the move", 2, y.undo());
        due("30 where it was", 0, y.corner(1, 0, 1));
        due("30 the cut", 1, y.undo());
        due("30 whole again", 288, y.area(0));
        due("30 no rest", -1, y.area(1));
        due("30 a slab again", 0, y.about(0, 0));
        due("30 rules stay", 2, y.count(1));
        due("30 assemblies stay", 1, y.count(2));
        due("30 the block", 0, y.undo());
        due("30 it did not come", -1, y.waste(0));
        due("31 no blocks", 0, y.count(3));
        due("30 none", -4, y.undo());
        due("30 its number is free", 0, y.block(2, 2, 9));
        due("30 with its own numbers", 9, y.about(0, 2));
    }

    private static void undoOfEight() {
        OctagonYard y = new OctagonYard();
        y.block(5, 5, 1);
        for (int i = 0; i < 10; i++) {
            y.move(0, 1, 0);
        }
        due("30 seven more", 7, y.undo());
        due("30 six more", 6, y.undo());
        due("30 one more again", 1, y.move(0, 100, 0));
        for (int i = 6; i >= 0; i--) {
            due("30 down to " + i, i, y.undo());
        }
        due("30 no more", -4, y.undo());
        due("30 two moves stay", 7, y.bound(0, 0));
        OctagonYard z = new OctagonYard();
        for (int i = 0; i < 60; i++) {
            z.block(2, 2, 1);
        }
        due("30 a place is free again", 7, z.undo());
        due("30 for a cut", 59, z.cut(0, 0, 1));
        due("30 of its block", 0, z.about(59, 3));
        due("30 not by block()", -1, z.waste(59));
        due("31 59 blocks", 59, z.count(3));
        due("30 full", -3, z.block(1, 1, 1));
    }

    private static void undoAgainstAssemblies() {
        OctagonYard y = new OctagonYard();
        y.block(6, 6, 1);
        y.assembly();
        y.put(0, 0, false);
        due("30 it stands in one", -2, y.undo());
        due("30 nothing changed", 288, y.area(0));
        y.cut(0, 0, 2);
        due("30 the rest stands in none", 1, y.undo());
        y.cut(0, 0, 2);
        y.put(0, 1, false);
        due("30 the rest stands in one", -2, y.undo());
        y.move(1, 3, 3);
        due("30 what came already may be moved back", 2, y.undo());
        due("30 still", -2, y.undo());
    }

    private static void counts() {
        OctagonYard y = octagon();
        y.block(1, 1, 1);
        y.scrap(0);
        due("31 pieces", 5, y.count(0));
        due("31 blocks, thrown away too", 2, y.count(3));
        y.rule(0, 0, 1, 0);
        y.assembly();
        due("31 rules", 2, y.count(1));
        due("31 assemblies", 1, y.count(2));
        due("31 what", -1, y.count(4));
        due("31 what", -1, y.count(-1));
        due("31 what", -1, y.count(LOW));
    }
}
