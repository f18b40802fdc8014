/** The boundary cases of promises 1 to 16: just inside each bound, at it and just beyond it. */
public final class PieceEdgesTest {
    private static final int BAD = -1, STATE = -2, NONE = -4, NOWHERE = 100000;
    private static final int LOW = Integer.MIN_VALUE, HIGH = Integer.MAX_VALUE;
    private static final Due DUE = new Due("PieceEdgesTest");

    public static void main(String[] args) {
        nothingInANewOne();
        noPieceAnywhere();
        blockSizes();
        cutWaysAndLines();
        cutThroughWithin();
        cutFarOut();
        cutAtHalves();
        cutKeepsTheLeast();
        moveByAThousand();
        moveToFourThousand();
        moveAcrossTheBound();
        turnGoesRound();
        turnKeepsToTheBound();
        scrapOnce();
        scrapWhatStands();
        boundNumbers();
        aboutNumbers();
        cornerNumbers();
        areaAndVolume();
        insideNumbers();
        insideByHalves();
        wasteOfABlock();
        wasteByNumber();
        nearAndTouchNumbers();
        DUE.end();
    }

    private static void due(String call, long want, long got) {
        DUE.is(call, want, got);
    }

    /** 1: "No PIECES, ASSEMBLIES; RULE 0 alone." */
    private static void nothingInANewOne() {
        OctagonYard y = new OctagonYard();
        due("1 pieces", 0, y.count(0));
        due("1 rules", 1, y.count(1));
        due("1 assemblies", 0, y.count(2));
        due("1 blocks", 0, y.count(3));
        for (int k = 0; k < 6; k++) {
            for (int l = 0; l < 6; l++) {
                due("1 rule 0 is first", 0, y.above(k, l, 0));
                due("1 and alone", NONE, y.above(k, l, 1));
            }
        }
        due("1 nothing to undo", NONE, y.undo());
        due("1 the first piece", 0, y.block(1, 1, 1));
        due("1 the first assembly", 0, y.assembly());
        due("1 the first rule of one's own", 1, y.rule(0, 0, 1, 0));
    }

    /** "There is no such PIECE": in a new object, and around those that came. */
    private static void noPieceAnywhere() {
        OctagonYard y = new OctagonYard();
        for (int p : new int[] {LOW, -1, 0, 1, 59, 60, HIGH}) {
            noPiece(y, p);
        }
        y.block(1, 1, 1);
        y.block(1, 1, 1);
        y.scrap(0);
        for (int p : new int[] {LOW, -1, 2, 59, 60, HIGH}) {
            noPiece(y, p);
        }
        due("thrown away: its waste is told", 8, y.waste(0));
        due("the one that is there", 8, y.area(1));
    }

    private static void noPiece(OctagonYard y, int p) {
        due("cut " + p, BAD, y.cut(p, 0, 0));
        due("move " + p, BAD, y.move(p, 0, 0));
        due("turn " + p, BAD, y.turn(p, 0));
        due("scrap " + p, BAD, y.scrap(p));
        due("bound " + p, NOWHERE, y.bound(p, 0));
        due("about " + p, BAD, y.about(p, 0));
        due("corner " + p, NOWHERE, y.corner(p, 0, 0));
        due("side " + p, BAD, y.side(p, 0));
        due("area " + p, BAD, y.area(p));
        due("volume " + p, BAD, y.volume(p));
        due("inside " + p, BAD, y.inside(p, 0, 0));
        due("waste " + p, BAD, y.waste(p));
        due("near " + p, BAD, y.near(p, 1));
        due("near " + p, BAD, y.near(1, p));
        due("touch " + p, BAD, y.touch(p, 1, 0));
        due("touch " + p, BAD, y.touch(1, p, 0));
        due("meet " + p, BAD, y.meet(p, 1));
        due("meet " + p, BAD, y.meet(1, p));
    }

    /** 2: "x 0 to w, y 0 to h (1 to 1000), THICKNESS l". */
    private static void blockSizes() {
        OctagonYard y = new OctagonYard();
        int number = 0;
        for (int size : new int[] {LOW, -1000, -1, 0, 1, 2, 999, 1000, 1001, 2000, HIGH}) {
            boolean fits = size >= 1 && size <= 1000;
            due("2 w " + size, fits ? number++ : BAD, y.block(size, 1, 1));
            due("2 h " + size, fits ? number++ : BAD, y.block(1, size, 1));
            due("2 l " + size, fits ? number++ : BAD, y.block(1, 1, size));
        }
        due("2 as many came", number, y.count(3));
        due("2 w 1000", 1000, y.bound(9, 0));
        due("2 from 0", 0, y.bound(9, 4));
        due("2 h 1000", 1000, y.bound(10, 1));
        due("2 from 0", 0, y.bound(10, 5));
        due("2 l 1000", 1000, y.about(11, 2));
        int[] box = {1000, 1, 1001, 1000, 0, 0, 0, 1};
        for (int k = 0; k < 8; k++) {
            due("2 E" + k, box[k], y.bound(9, k));
        }
    }

    /** 3: "way 0 .. 3", "c -4000 to 4000". */
    private static void cutWaysAndLines() {
        OctagonYard y = new OctagonYard();
        y.block(9, 9, 1);
        for (int way : new int[] {LOW, -1, 4, HIGH}) {
            due("3 way " + way, BAD, y.cut(0, way, 4));
        }
        for (int way = 0; way < 4; way++) {
            due("3 c below", BAD, y.cut(0, way, -4001));
            due("3 c least", STATE, y.cut(0, way, -4000));
            due("3 c next", STATE, y.cut(0, way, -3999));
            due("3 c last but one", STATE, y.cut(0, way, 3999));
            due("3 c most", STATE, y.cut(0, way, 4000));
            due("3 c beyond", BAD, y.cut(0, way, 4001));
            due("3 c far below", BAD, y.cut(0, way, LOW));
            due("3 c far beyond", BAD, y.cut(0, way, HIGH));
        }
        // Doubled, it would wrap around to a line within.
        due("3 c wraps to 4", BAD, y.cut(0, 0, LOW + 4));
        due("3 whole", 648, y.area(0));
        due("3 way 0", 1, y.cut(0, 0, 8));
        due("3 way 1", 2, y.cut(0, 1, 8));
        due("3 way 2", 3, y.cut(0, 2, 15));
        due("3 way 3", 4, y.cut(0, 3, 7));
        int[] area = {8 * 64 - 8, 72, 64, 4, 4};
        for (int p = 0; p < 5; p++) {
            due("3 area of " + p, area[p], y.area(p));
        }
    }

    /** 3: "STATE: the line does not go through within it": at each end, one before it and one behind it. */
    private static void cutThroughWithin() {
        int[][] ends = {{0, 5}, {0, 7}, {0, 12}, {-7, 5}};
        for (int way = 0; way < 4; way++) {
            int low = ends[way][0], high = ends[way][1];
            for (int c : new int[] {low - 1, low, high, high + 1}) {
                OctagonYard y = new OctagonYard();
                y.block(5, 7, 1);
                due("3 way " + way + " not at " + c, STATE, y.cut(0, way, c));
                due("3 nothing came", 1, y.count(0));
                due("3 nothing to undo but the block", 0, y.undo());
            }
            for (int c : new int[] {low + 1, high - 1}) {
                OctagonYard y = new OctagonYard();
                y.block(5, 7, 1);
                due("3 way " + way + " at " + c, 1, y.cut(0, way, c));
                due("3 it keeps what is at most c", c, y.bound(0, way));
                due("3 from where it was", -low, y.bound(0, way + 4));
                due("3 the rest is from c on", -c, y.bound(1, way + 4));
                due("3 to where it was", high, y.bound(1, way));
                due("3 nothing is lost", 8 * 35, y.area(0) + y.area(1));
                due("3 the same line again", STATE, y.cut(0, way, c));
                due("3 nor the rest", STATE, y.cut(1, way, c));
            }
        }
    }

    /** 3: c close to 4000 can go through what was moved as far as can be. */
    private static void cutFarOut() {
        for (int way = 0; way < 2; way++) {
            OctagonYard y = new OctagonYard();
            int p = Shapes.carve(y, 4, 2, 2, 2, 2);
            for (int i = 0; i < 3; i++) {
                y.move(p, 1000, 0);
            }
            y.move(p, 996, -2);
            if (way == 1) {
                y.turn(p, 2);
            }
            // Its CORNER (4,2) is at (4000,0) now, or at (0,4000).
            due("3 E is 4000", 4000, y.bound(p, way));
            due("3 at the corner", STATE, y.cut(p, way, 4000));
            int rest = y.cut(p, way, 3999);
            due("3 a rest came", p + 1, rest);
            due("3 its area", 8, y.area(rest));
            y.turn(rest, 0);
            y.turn(rest, 0);
            due("3 the corner at the other end", STATE, y.cut(rest, way, -4000));
            due("3 the side at the other end", STATE, y.cut(rest, way, -3999));
            int last = way == 0 ? -4000 : 4000;
            due("3 the side along the last slant", STATE, y.cut(rest, 3, last));
            due("3 the slant before it", rest + 1, y.cut(rest, 3, last - Integer.signum(last)));
        }
    }

    /** 3: a line that only half a unit lies beyond goes through; one half a unit beyond does not. */
    private static void cutAtHalves() {
        for (int turned = 0; turned < 4; turned++) {
            OctagonYard y = new OctagonYard();
            y.block(5, 5, 1);
            y.cut(0, 3, 0);
            y.cut(0, 2, 5);
            // (0,0), (2.5,2.5), (0,5), turned by quarters.
            for (int i = 0; i < turned; i++) {
                y.turn(0, 0);
            }
            int way = turned % 2;
            int sign = turned == 0 || turned == 1 ? 1 : -1;
            due("3 half a unit beyond " + turned, STATE, y.cut(0, way, 3 * sign));
            due("3 half a unit before " + turned, 3, y.cut(0, way, 2 * sign));
            due("3 a sliver " + turned, 2, Math.min(y.area(0), y.area(3)));
            due("3 nothing is lost " + turned, 50, y.area(0) + y.area(3));
        }
    }

    /** 3: "it keeps what is at most c, a new one gets the rest"; both have the least numbers again. */
    private static void cutKeepsTheLeast() {
        OctagonYard y = new OctagonYard();
        y.block(6, 4, 1);
        y.cut(0, 2, 3);
        int[] kept = {3, 3, 3, 3, 0, 0, 0, 3};
        int[] rest = {6, 4, 10, 6, 0, 0, -3, 4};
        y.cut(1, 3, 5);
        rest[3] = 5;
        int[] end = {6, 1, 7, 6, -5, 0, -5, -5};
        for (int k = 0; k < 8; k++) {
            due("3 kept E" + k, kept[k], y.bound(0, k));
            due("3 rest E" + k, rest[k], y.bound(1, k));
            due("3 end E" + k, end[k], y.bound(2, k));
        }
    }

    /** 4: "moved by x, y (-1000 to 1000 each)". */
    private static void moveByAThousand() {
        OctagonYard y = new OctagonYard();
        y.block(2, 2, 1);
        due("4 x 1000", 1, y.move(0, 1000, 0));
        due("4 x", 1002, y.bound(0, 0));
        due("4 x -1000", 1, y.move(0, -1000, 0));
        due("4 x", 0, y.bound(0, 4));
        due("4 y 1000", 1, y.move(0, 0, 1000));
        due("4 y", 1002, y.bound(0, 1));
        due("4 y -1000", 1, y.move(0, 0, -1000));
        due("4 y", 0, y.bound(0, 5));
        due("4 both 1000", 1, y.move(0, 1000, 1000));
        due("4 both -1000", 1, y.move(0, -1000, -1000));
        for (int far : new int[] {LOW, -1001, 1001, HIGH}) {
            due("4 x " + far, BAD, y.move(0, far, 0));
            due("4 y " + far, BAD, y.move(0, 0, far));
            due("4 both " + far, BAD, y.move(0, far, far));
        }
        due("4 it stays", 2, y.bound(0, 0));
        due("4 by nothing", 1, y.move(0, 0, 0));
    }

    /** 4: "BAD: also a number E k would be beyond 4000": 4000 is not beyond, 4001 is, for each slant. */
    private static void moveToFourThousand() {
        int[][] toward = {{1, 1}, {1, -1}, {-1, -1}, {-1, 1}};
        int[] slant = {2, 3, 6, 7};
        for (int i = 0; i < 4; i++) {
            OctagonYard y = new OctagonYard();
            y.block(10, 10, 1);
            // Around (0, 0), so that all four ends are alike: E is 10 at each slant.
            y.move(0, -5, -5);
            int x = toward[i][0], up = toward[i][1], k = slant[i];
            due("4 on the way", 1, y.move(0, x * 1000, up * 1000));
            due("4 one short", 1, y.move(0, x * 995, up * 994));
            due("4 E" + k, 3999, y.bound(0, k));
            due("4 two more", BAD, y.move(0, x, up));
            due("4 one more", 1, y.move(0, x, 0));
            due("4 E" + k + " at the bound", 4000, y.bound(0, k));
            due("4 x beyond " + k, BAD, y.move(0, x, 0));
            due("4 y beyond " + k, BAD, y.move(0, 0, up));
            due("4 far beyond " + k, BAD, y.move(0, x * 1000, up * 1000));
            due("4 it stays", 4000, y.bound(0, k));
            due("4 along the bound", 1, y.move(0, x, -up));
            due("4 by nothing at the bound", 1, y.move(0, 0, 0));
            due("4 back", 1, y.move(0, -x * 1000, -up * 1000));
            due("4 the undo of a refused one is of the one before", 7, y.undo());
            due("4 at the bound again", 4000, y.bound(0, k));
        }
    }

    /** 4: a CORNER alone at 4000 to the right: E0, E2 and E3 are at the bound at once. */
    private static void moveAcrossTheBound() {
        for (int turned = 0; turned < 4; turned++) {
            OctagonYard y = new OctagonYard();
            int p = Shapes.carve(y, 4, 2, 2, 2, 2);
            for (int i = 0; i < 3; i++) {
                y.move(p, 1000, 0);
            }
            y.move(p, 996, -2);
            int x = 1, up = 0;
            for (int i = 0; i < turned; i++) {
                y.turn(p, 0);
                int before = x;
                x = -up;
                up = before;
            }
            int k = new int[] {0, 1, 4, 5}[turned];
            due("4 a corner at the bound " + k, 4000, y.bound(p, k));
            due("4 beyond " + k, BAD, y.move(p, x, up));
            due("4 aside " + k, BAD, y.move(p, up, x));
            due("4 the other side " + k, BAD, y.move(p, -up, -x));
            due("4 inward " + k, 1, y.move(p, -x, -up));
            due("4 then aside " + k, 1, y.move(p, up, x));
            due("4 once only " + k, BAD, y.move(p, up, x));
        }
    }

    /** 5: ways 0, 1, 2; four quarters, twice mirrored, twice changed are as before. */
    private static void turnGoesRound() {
        int[] times = {4, 2, 2};
        for (int way = 0; way < 3; way++) {
            OctagonYard y = Shapes.sliver();
            y.move(3, 7, -4);
            StringBuilder before = new StringBuilder();
            StringBuilder after = new StringBuilder();
            everything(y, 3, before);
            for (int i = 0; i < times[way]; i++) {
                due("5 way " + way, 1, y.turn(3, way));
                DUE.holds("5 it is elsewhere", i + 1 == times[way] || y.bound(3, 0) != 10);
            }
            everything(y, 3, after);
            DUE.holds("5 as before, way " + way, before.toString().equals(after.toString()));
        }
        OctagonYard y = Shapes.sliver();
        for (int way : new int[] {LOW, -1, 3, HIGH}) {
            due("5 way " + way, BAD, y.turn(3, way));
        }
        // (2,2), (2.5,2.5), (2,3) by -y, x; then -x; then x and y changed.
        int[] quarter = {-6, 4, -4, 4, -5, 5};
        int[] mirrored = {4, 4, 6, 4, 5, 5};
        int[] changed = {4, 4, 5, 5, 4, 6};
        y.turn(3, 0);
        cornersAre(y, "5 quarter", quarter);
        y.turn(3, 1);
        cornersAre(y, "5 mirrored", mirrored);
        y.turn(3, 2);
        cornersAre(y, "5 changed", changed);
    }

    private static void cornersAre(OctagonYard y, String how, int[] want) {
        for (int i = 0; i < want.length; i++) {
            due(how + " " + i, want[i], y.corner(3, i / 2, i % 2));
        }
    }

    private static void everything(OctagonYard y, int p, StringBuilder into) {
        for (int i = 0; i < 8; i++) {
            into.append(y.bound(p, i)).append(' ').append(y.corner(p, i, 0)).append(' ');
            into.append(y.corner(p, i, 1)).append(' ').append(y.side(p, i)).append(' ');
        }
    }

    /** 5: a turn is never refused for where it leads: all E k stay among themselves. */
    private static void turnKeepsToTheBound() {
        OctagonYard y = new OctagonYard();
        y.block(10, 10, 1);
        y.move(0, 1000, 1000);
        y.move(0, 990, 990);
        due("5 at the bound", 4000, y.bound(0, 2));
        for (int way : new int[] {0, 0, 0, 1, 2, 1, 2}) {
            due("5 way " + way, 1, y.turn(0, way));
            int most = LOW;
            for (int k = 0; k < 8; k++) {
                most = Math.max(most, y.bound(0, k));
            }
            due("5 still at the bound", 4000, most);
        }
    }

    /** 6: "there is none such any more". */
    private static void scrapOnce() {
        OctagonYard y = Shapes.withBlocks(3);
        due("6 the last", 1, y.scrap(2));
        due("6 again", BAD, y.scrap(2));
        due("6 the first", 1, y.scrap(0));
        due("6 again", BAD, y.scrap(0));
        due("6 one is left", 1, y.count(0));
        due("6 all came", 3, y.count(3));
        due("6 the only one", 1, y.scrap(1));
        due("6 none is left", 0, y.count(0));
        due("6 the next has a number of its own", 3, y.block(1, 1, 1));
        due("6 those don't come back", BAD, y.area(0));
    }

    /** 6: "STATE: it stands in an ASSEMBLY": in an outer one, in an inner one, as the twentieth. */
    private static void scrapWhatStands() {
        OctagonYard y = Shapes.withBlocks(4);
        Shapes.assemblies(y, 2);
        y.put(0, 0, false);
        y.put(1, 0, true);
        Shapes.putTimes(y, 1, 1, false, 18);
        due("6 it does not stand yet", 1, y.scrap(3));
        due("6 the twentieth", 20, y.put(1, 2, false));
        due("6 within the inner one", STATE, y.scrap(0));
        due("6 many times", STATE, y.scrap(1));
        due("6 as the twentieth", STATE, y.scrap(2));
        due("6 all are there", 3, y.count(0));
        // The number of an ASSEMBLY within a row is not that of a PIECE.
        OctagonYard z = Shapes.withBlocks(2);
        Shapes.assemblies(z, 2);
        z.put(0, 1, true);
        due("6 assembly 1 stands there, not piece 1", 1, z.scrap(1));
    }

    /** 7: "100000: there is none such". */
    private static void boundNumbers() {
        OctagonYard y = new OctagonYard();
        y.block(3, 2, 1);
        due("7 k below", NOWHERE, y.bound(0, -1));
        due("7 k 0", 3, y.bound(0, 0));
        due("7 k 7", 2, y.bound(0, 7));
        due("7 k beyond", NOWHERE, y.bound(0, 8));
        due("7 k least", NOWHERE, y.bound(0, LOW));
        due("7 k most", NOWHERE, y.bound(0, HIGH));
        y.move(0, 1, 4);
        due("7 E4 is -1, no refusal", -1, y.bound(0, 4));
        due("7 E5 is -4, no refusal", -4, y.bound(0, 5));
    }

    /** 8: what 0 to 4. */
    private static void aboutNumbers() {
        OctagonYard y = new OctagonYard();
        y.block(1, 1, 1);
        y.block(3, 2, 9);
        int[] want = {BAD, 0, 4, 9, 1, 6, BAD};
        for (int what = -1; what <= 5; what++) {
            due("8 what " + what, want[what + 1], y.about(1, what));
        }
        due("8 what least", BAD, y.about(1, LOW));
        due("8 what most", BAD, y.about(1, HIGH));
    }

    /** 9, 10: CORNER and SIDE i of a PIECE, what 0, 1. */
    private static void cornerNumbers() {
        OctagonYard y = new OctagonYard();
        y.block(3, 2, 1);
        for (int i : new int[] {LOW, -1, 4, 7, 8, HIGH}) {
            due("9 i " + i, NOWHERE, y.corner(0, i, 0));
            due("10 i " + i, BAD, y.side(0, i));
        }
        for (int what : new int[] {LOW, -1, 2, HIGH}) {
            due("9 what " + what, NOWHERE, y.corner(0, 3, what));
        }
        due("9 the last", 0, y.corner(0, 3, 0));
        due("9 the last", 4, y.corner(0, 3, 1));
        due("10 the last", 4, y.side(0, 3));
        // Sawn to a wedge: what it had as its fourth is gone.
        y.cut(0, 2, 1);
        due("9 a wedge's last", 0, y.corner(0, 2, 0));
        due("9 no fourth any more", NOWHERE, y.corner(0, 3, 0));
        due("10 no fourth any more", BAD, y.side(0, 3));
    }

    /** 11, 12: the smallest, the largest; 1000 by 1000 by 1000 is more than an int. */
    private static void areaAndVolume() {
        OctagonYard y = new OctagonYard();
        y.block(1, 1, 1);
        y.block(1000, 1000, 1000);
        y.block(1000, 1000, 268);
        y.block(1000, 1000, 269);
        due("11 one", 8, y.area(0));
        due("12 one", 8, y.volume(0));
        due("11 largest", 8000000, y.area(1));
        due("12 largest", 8000000000L, y.volume(1));
        due("12 below 2 to the 31st", 2144000000L, y.volume(2));
        due("12 above 2 to the 31st", 2152000000L, y.volume(3));
        y.cut(0, 2, 1);
        due("11 half of one", 4, y.area(0));
        due("11 the other half", 4, y.area(4));
        y.move(1, -1000, -1000);
        y.move(1, -1000, -1000);
        due("11 the largest, far out", BAD, y.move(1, -1, 0));
        due("11 the largest, far out", 8000000, y.area(1));
        due("12 none", BAD, y.volume(5));
        OctagonYard sliver = Shapes.sliver();
        due("11 smallest", 2, sliver.area(3));
        due("12 smallest", 2, sliver.volume(3));
    }

    /** 13: "doubled x, y (-10000 to 10000)". */
    private static void insideNumbers() {
        OctagonYard y = new OctagonYard();
        y.block(3, 3, 1);
        for (int far : new int[] {-10000, -9999, 9999, 10000}) {
            due("13 x " + far, 0, y.inside(0, far, 1));
            due("13 y " + far, 0, y.inside(0, 1, far));
            due("13 both " + far, 0, y.inside(0, far, far));
            due("13 crosswise " + far, 0, y.inside(0, far, -far));
        }
        for (int beyond : new int[] {LOW, -10001, 10001, HIGH}) {
            due("13 x " + beyond, BAD, y.inside(0, beyond, 1));
            due("13 y " + beyond, BAD, y.inside(0, 1, beyond));
            due("13 both " + beyond, BAD, y.inside(0, beyond, beyond));
        }
    }

    /** 13: within (2), on a SIDE (1), outside (0): half a unit to and fro at each of eight SIDES and CORNERS. */
    private static void insideByHalves() {
        OctagonYard y = new OctagonYard();
        int p = Shapes.carve(y, 6, 2, 2, 2, 2);
        // Doubled: the middle of each SIDE, and the way out.
        int[][] middle = {{12, 6}, {6, 12}, {10, 10}, {10, 2}, {0, 6}, {6, 0}, {2, 2}, {2, 10}};
        int[][] out = {{1, 0}, {0, 1}, {1, 0}, {0, -1}, {-1, 0}, {0, -1}, {0, -1}, {-1, 0}};
        for (int k = 0; k < 8; k++) {
            int x = middle[k][0], at = middle[k][1];
            due("13 on side " + k, 1, y.inside(p, x, at));
            due("13 before side " + k, 2, y.inside(p, x - out[k][0], at - out[k][1]));
            due("13 beyond side " + k, 0, y.inside(p, x + out[k][0], at + out[k][1]));
        }
        for (int i = 0; i < 8; i++) {
            int x = y.corner(p, i, 0), at = y.corner(p, i, 1);
            due("13 corner " + i, 1, y.inside(p, x, at));
            due("13 out of corner " + i, 0, y.inside(p, x + Integer.signum(x - 6), at + Integer.signum(at - 6)));
        }
        OctagonYard half = Shapes.sliver();
        due("13 the half corner", 1, half.inside(3, 5, 5));
        due("13 beyond it", 0, half.inside(3, 6, 5));
        due("13 on its long side", 1, half.inside(3, 4, 5));
        // Of the eight numbers E0 is 3, but no point is there.
        due("13 at E0", 0, half.inside(3, 6, 6));
    }

    /** 14: "less that of all PIECES of it that there are": none thrown away, some, all; back again. */
    private static void wasteOfABlock() {
        OctagonYard y = new OctagonYard();
        y.block(4, 4, 1);
        y.block(2, 2, 1);
        y.cut(0, 0, 1);
        y.cut(2, 1, 1);
        due("14 none", 0, y.waste(0));
        y.scrap(3);
        due("14 one", 72, y.waste(0));
        y.scrap(0);
        y.scrap(2);
        due("14 all", 128, y.waste(0));
        due("14 the other block's", 0, y.waste(1));
        y.undo();
        due("14 one is back", 104, y.waste(0));
        y.turn(2, 0);
        y.move(2, 9, 9);
        due("14 turned and moved", 104, y.waste(0));
        y.block(1000, 1000, 1);
        y.scrap(4);
        due("14 the largest", 8000000, y.waste(4));
    }

    /** 14: "BAD: none came by that number." */
    private static void wasteByNumber() {
        OctagonYard y = new OctagonYard();
        due("14 nothing came", BAD, y.waste(0));
        y.block(4, 4, 1);
        y.cut(0, 0, 1);
        due("14 came by block()", 0, y.waste(0));
        due("14 came by cut()", BAD, y.waste(1));
        due("14 none yet", BAD, y.waste(2));
        due("14 below", BAD, y.waste(-1));
        y.undo();
        due("14 the cut was undone", BAD, y.waste(1));
        y.block(2, 2, 1);
        due("14 now by block()", 0, y.waste(1));
        y.undo();
        due("14 that was undone", BAD, y.waste(1));
        y.cut(0, 1, 2);
        due("14 by cut() again", BAD, y.waste(1));
        y.undo();
        y.undo();
        due("14 the first was undone", BAD, y.waste(0));
        due("14 another comes by it", 0, y.block(3, 3, 1));
        y.scrap(0);
        due("14 its own area", 72, y.waste(0));
    }

    /** 15, 16: "BAD: also one and the same"; what 0, 1. */
    private static void nearAndTouchNumbers() {
        OctagonYard y = Shapes.withBlocks(2);
        y.move(1, 4, 0);
        due("15 same", BAD, y.near(0, 0));
        due("15 same", BAD, y.near(1, 1));
        due("15 same, but none", BAD, y.near(2, 2));
        due("15 two", 1, y.near(0, 1));
        due("16 same", BAD, y.touch(1, 1, 0));
        for (int what : new int[] {LOW, -1, 2, HIGH}) {
            due("16 what " + what, BAD, y.touch(0, 1, what));
        }
        due("16 what 0", 0, y.touch(0, 1, 0));
        due("16 what 1", 8, y.touch(0, 1, 1));
        y.move(1, 1, 0);
        due("16 no touch", NONE, y.touch(0, 1, 0));
        due("16 no touch, what beyond", BAD, y.touch(0, 1, 2));
        // As long as can be.
        OctagonYard z = new OctagonYard();
        z.block(1000, 1000, 1);
        z.cut(0, 2, 1000);
        due("16 the longest", 2000, z.touch(0, 1, 1));
        due("16 a slant", 2, z.touch(0, 1, 0));
        // A large one beside a small one: the small one's SIDE alone.
        z.block(1, 1, 1);
        z.move(2, -1, 999);
        due("16 a small one at the end", 2, z.touch(0, 2, 1));
        z.move(2, 0, 1);
        due("16 its corner alone", 0, z.near(0, 2));
    }
}
