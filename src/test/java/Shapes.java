/** Yards and PIECES that several tests begin with. */
final class Shapes {
    private Shapes() { }

    /**
     * A PIECE of x 0 to size, y 0 to size, with its ends cut off where x + y is least (southWest), x - y is
     * greatest (southEast), x + y is greatest (northEast), x - y is least (northWest): its number.
     */
    static int carve(OctagonYard y, int size, int southWest, int southEast, int northEast, int northWest) {
        int p = y.block(size, size, 1);
        if (northEast > 0) {
            y.cut(p, 2, 2 * size - northEast);
        }
        if (southEast > 0) {
            y.cut(p, 3, size - southEast);
        }
        if (southWest > 0) {
            p = y.cut(p, 2, southWest);
        }
        if (northWest > 0) {
            p = y.cut(p, 3, northWest - size);
        }
        return p;
    }

    /**
     * A 5 by 5 BLOCK in four. PIECE 0: (0,0), (2,2), (2,3), (0,5). 1: what has x above y. 2: (0,5), (2.5,2.5),
     * (5,5). 3: (2,2), (2.5,2.5), (2,3), the smallest PIECE there can be.
     */
    static OctagonYard sliver() {
        OctagonYard y = new OctagonYard();
        y.block(5, 5, 1);
        y.cut(0, 3, 0);
        y.cut(0, 2, 5);
        y.cut(0, 0, 2);
        return y;
    }

    static OctagonYard withBlocks(int how) {
        OctagonYard y = new OctagonYard();
        for (int i = 0; i < how; i++) {
            y.block(4, 4, 1);
        }
        return y;
    }

    static void assemblies(OctagonYard y, int how) {
        for (int i = 0; i < how; i++) {
            y.assembly();
        }
    }

    static void putTimes(OctagonYard y, int into, int what, boolean whole, int times) {
        for (int i = 0; i < times; i++) {
            y.put(into, what, whole);
        }
    }
}
