/** The boundary cases of promises 17 to 22, and of the Terms about RULES, PACKS and STEPS. */
public final class RuleEdgesTest {
    private static final int BAD = -1, STATE = -2, FULL = -3, NONE = -4, UNDECIDED = -5;
    private static final int LOW = Integer.MIN_VALUE, HIGH = Integer.MAX_VALUE;
    private static final int STONE = 9;
    private static final int[] FAMILY = {6, 6, 7, 7, 8, 8};
    private static final Due DUE = new Due("RuleEdgesTest");

    public static void main(String[] args) {
        ruleNumbers();
        fortyRules();
        ruleZero();
        packNumbers();
        packsOnAndOff();
        packZeroStaysOn();
        whatIsAbove();
        wholeOrder();
        latestFirst();
        aboveNumbers();
        treatsNumbers();
        sameSumOtherSteps();
        sameSumSameSteps();
        fartherOnesDecideNothing();
        anyOtherOneFarDown();
        undecidedPairs();
        meetNumbers();
        meetByBothKinds();
        DUE.end();
    }

    private static void due(String call, long want, long got) {
        DUE.is(call, want, got);
    }

    /** "For two KINDS or FAMILIES (0 to 9), a JOINT (1 to 99), a PACK (0 to 7)." */
    private static void ruleNumbers() {
        OctagonYard y = new OctagonYard();
        int next = 1;
        for (int n : new int[] {LOW, -1, 0, 1, 8, 9, 10, HIGH}) {
            boolean fits = n >= 0 && n <= 9;
            due("17 first " + n, fits ? next++ : BAD, y.rule(n, 0, 1, 0));
            due("17 second " + n, fits ? next++ : BAD, y.rule(0, n, 1, 0));
        }
        for (int joint : new int[] {LOW, -1, 0, 1, 2, 98, 99, 100, HIGH}) {
            boolean fits = joint >= 1 && joint <= 99;
            due("17 joint " + joint, fits ? next++ : BAD, y.rule(0, 0, joint, 0));
        }
        for (int pack : new int[] {LOW, -1, 0, 1, 6, 7, 8, HIGH}) {
            boolean fits = pack >= 0 && pack <= 7;
            due("17 pack " + pack, fits ? next++ : BAD, y.rule(0, 0, 1, pack));
        }
        due("31 as many", next, y.count(1));
    }

    /** "RULES (40)": the 40th is number 39, then FULL. */
    private static void fortyRules() {
        OctagonYard y = new OctagonYard();
        for (int i = 1; i < 39; i++) {
            due("17 a number", i, y.rule(0, 0, 1, 0));
        }
        due("31 39 of them", 39, y.count(1));
        due("17 the last", 39, y.rule(9, 9, 99, 7));
        due("31 40 of them", 40, y.count(1));
        due("17 full", FULL, y.rule(9, 9, 99, 7));
        due("17 full, though packs are off", 1, y.pack(7, false));
        due("17 full, though packs are off", FULL, y.rule(9, 9, 99, 7));
        due("17 bad first", BAD, y.rule(9, 9, 99, 8));
        due("31 still 40", 40, y.count(1));
        due("19 the last before it", 38, y.above(0, 0, 0));
        OctagonYard alike = new OctagonYard();
        for (int i = 1; i < 40; i++) {
            alike.rule(0, 0, 1, 0);
            due("19 the latest", i, alike.above(0, 0, 0));
            due("20 the latest", i, alike.treats(0, 0));
        }
    }

    /** "RULE 0 is there: STONE, STONE, JOINT 1, PACK 0." */
    private static void ruleZero() {
        OctagonYard y = Shapes.withBlocks(2);
        y.move(1, 4, 0);
        due("22 joint 1", 1, y.meet(0, 1));
        y.rule(STONE, STONE, 2, 0);
        due("20 a later one of the same steps", 1, y.treats(0, 0));
        due("19 rule 0 behind it", 0, y.above(0, 0, 1));
        y.rule(6, STONE, 3, 0);
        due("20 one step nearer", 2, y.treats(0, 0));
        due("20 not for another", 1, y.treats(2, 0));
    }

    /** 18: PACKS 0 to 7. */
    private static void packNumbers() {
        OctagonYard y = new OctagonYard();
        for (int n : new int[] {LOW, -1, 8, 31, 32, HIGH}) {
            due("18 on " + n, BAD, y.pack(n, true));
            due("18 off " + n, BAD, y.pack(n, false));
        }
        // "All PACKS are on at first."
        for (int n = 0; n < 8; n++) {
            due("18 on at first " + n, 1, y.pack(n, true));
        }
        for (int n = 1; n < 8; n++) {
            due("18 was on " + n, 1, y.pack(n, false));
            due("18 was off " + n, 0, y.pack(n, false));
        }
        for (int n = 1; n < 8; n++) {
            due("18 was off " + n, 0, y.pack(n, true));
            due("18 was on " + n, 1, y.pack(n, true));
        }
    }

    /** "Those RULES count whose PACK is on": each PACK by itself. */
    private static void packsOnAndOff() {
        OctagonYard y = new OctagonYard();
        for (int n = 1; n < 8; n++) {
            y.rule(0, 0, 10 + n, n);
        }
        for (int n = 7; n > 0; n--) {
            due("18 the latest", n, y.treats(0, 0));
            y.pack(n, false);
        }
        due("18 rule 0 is left", 0, y.treats(0, 0));
        due("19 alone", NONE, y.above(0, 0, 1));
        y.pack(4, true);
        due("18 pack 4 again", 4, y.treats(0, 0));
        due("17 a rule of a pack that is off", 8, y.rule(0, 0, 1, 7));
        due("18 it does not count", 4, y.treats(0, 0));
        y.pack(7, true);
        due("18 now it does", 8, y.treats(0, 0));
        due("19 with the other of that pack", 7, y.above(0, 0, 1));
    }

    /** "PACK 0 is always on." */
    private static void packZeroStaysOn() {
        OctagonYard y = new OctagonYard();
        y.rule(0, 0, 5, 0);
        due("18 off", BAD, y.pack(0, false));
        due("18 it counts", 1, y.treats(0, 0));
        due("18 on", 1, y.pack(0, true));
        due("18 off again", BAD, y.pack(0, false));
        due("18 rule 0 too", 0, y.treats(1, 1));
    }

    /** "Whose first is k or above it, whose second is l or above it": each KIND against 0 to 9. */
    private static void whatIsAbove() {
        for (int upper = 0; upper <= 9; upper++) {
            OctagonYard first = new OctagonYard();
            OctagonYard second = new OctagonYard();
            first.rule(upper, 9, 1, 0);
            second.rule(9, upper, 1, 0);
            for (int kind = 0; kind < 6; kind++) {
                boolean counts = upper == kind || upper == FAMILY[kind] || upper == STONE;
                for (int other = 0; other < 6; other++) {
                    due("19 first " + upper + " for " + kind, counts ? 1 : 0, first.above(kind, other, 0));
                    due("19 second " + upper + " for " + kind, counts ? 1 : 0, second.above(other, kind, 0));
                    due("19 and rule 0", counts ? 0 : NONE, first.above(kind, other, 1));
                    due("19 and rule 0", counts ? 0 : NONE, second.above(other, kind, 1));
                }
            }
        }
    }

    /** "By the sum of STEPS, then by STEPS of the first, then by number (the latest first)." */
    private static void wholeOrder() {
        int[][] order = {{0, 0}, {0, 1}, {1, 0}, {0, 2}, {1, 1}, {2, 0}, {1, 2}, {2, 1}, {2, 2}};
        for (int k = 0; k < 6; k++) {
            int l = 5 - k;
            int[] overK = {k, FAMILY[k], STONE};
            int[] overL = {l, FAMILY[l], STONE};
            OctagonYard upward = new OctagonYard();
            OctagonYard downward = new OctagonYard();
            for (int i = 0; i < 9; i++) {
                upward.rule(overK[order[i][0]], overL[order[i][1]], 1, 0);
                downward.rule(overK[order[8 - i][0]], overL[order[8 - i][1]], 1, 0);
            }
            for (int i = 0; i < 9; i++) {
                due("19 as they came, " + k + " " + i, i + 1, upward.above(k, l, i));
                due("19 the other way round, " + k + " " + i, 9 - i, downward.above(k, l, i));
            }
            due("19 rule 0 at last", 0, upward.above(k, l, 9));
            due("19 rule 0 at last", 0, downward.above(k, l, 9));
            due("19 no more", NONE, upward.above(k, l, 10));
        }
    }

    private static void latestFirst() {
        OctagonYard y = new OctagonYard();
        for (int i = 1; i < 40; i++) {
            y.rule(i % 2 == 0 ? 4 : 8, 9, 1, 0);
        }
        for (int i = 0; i < 19; i++) {
            due("19 of the kind " + i, 38 - 2 * i, y.above(4, 0, i));
        }
        for (int i = 0; i < 20; i++) {
            due("19 of the family " + i, 39 - 2 * i, y.above(4, 0, 19 + i));
            due("19 of the family, another kind " + i, 39 - 2 * i, y.above(5, 0, i));
        }
        due("19 rule 0", 0, y.above(4, 0, 39));
        due("19 no more", NONE, y.above(4, 0, 40));
        due("19 rule 0", 0, y.above(5, 0, 20));
        due("19 no more", NONE, y.above(5, 0, 21));
    }

    /** 19: "(0 the first)", "two KINDS (0 to 5)". */
    private static void aboveNumbers() {
        OctagonYard y = new OctagonYard();
        for (int n : new int[] {LOW, -1, 6, 9, HIGH}) {
            due("19 k " + n, BAD, y.above(n, 0, 0));
            due("19 l " + n, BAD, y.above(0, n, 0));
            due("19 both " + n, BAD, y.above(n, n, 0));
        }
        due("19 k, l 0", 0, y.above(0, 0, 0));
        due("19 k, l 5", 0, y.above(5, 5, 0));
        due("19 i below", BAD, y.above(0, 0, -1));
        due("19 i least", BAD, y.above(0, 0, LOW));
        due("19 i 1", NONE, y.above(0, 0, 1));
        due("19 i 40", NONE, y.above(0, 0, 40));
        due("19 i most", NONE, y.above(0, 0, HIGH));
    }

    /** 20: two KINDS, not FAMILIES. */
    private static void treatsNumbers() {
        OctagonYard y = new OctagonYard();
        for (int n : new int[] {LOW, -1, 6, 7, 8, 9, HIGH}) {
            due("20 k " + n, BAD, y.treats(n, 5));
            due("20 l " + n, BAD, y.treats(5, n));
        }
        due("20 0, 5", 0, y.treats(0, 5));
        due("20 5, 0", 0, y.treats(5, 0));
    }

    /** "UNDECIDED, if any other one has the same sum, but other STEPS of the first": sums 1, 2 and 3. */
    private static void sameSumOtherSteps() {
        int[][] steps = {{0, 1}, {1, 0}, {0, 2}, {1, 1}, {2, 0}, {1, 2}, {2, 1}};
        int[] over = {2, 7, 9};
        for (int[] one : steps) {
            for (int[] other : steps) {
                OctagonYard y = new OctagonYard();
                y.rule(over[one[0]], over[one[1]], 1, 0);
                y.rule(over[other[0]], over[other[1]], 1, 1);
                int sum = one[0] + one[1], otherSum = other[0] + other[1];
                int want = sum < otherSum ? 1 : sum > otherSum || one == other ? 2 : UNDECIDED;
                due("20 " + sum + " " + one[0] + " against " + otherSum + " " + other[0], want, y.treats(2, 2));
                y.pack(1, false);
                due("20 alone", 1, y.treats(2, 2));
            }
        }
    }

    private static void sameSumSameSteps() {
        OctagonYard y = new OctagonYard();
        for (int i = 1; i <= 5; i++) {
            y.rule(7, 7, i, 0);
            due("20 the latest", i, y.treats(2, 3));
        }
        due("21 none", 0, y.undecided());
    }

    private static void fartherOnesDecideNothing() {
        OctagonYard y = new OctagonYard();
        y.rule(7, 9, 1, 0);
        y.rule(9, 7, 1, 0);
        due("20 at 3 steps", UNDECIDED, y.treats(2, 2));
        y.rule(7, 7, 1, 1);
        due("20 one at 2 steps", 3, y.treats(2, 2));
        y.rule(9, 2, 1, 2);
        due("20 another at 2 steps", UNDECIDED, y.treats(2, 2));
        y.rule(2, 7, 1, 3);
        due("20 one at 1 step", 5, y.treats(2, 2));
        y.rule(7, 2, 1, 4);
        due("20 another at 1 step", UNDECIDED, y.treats(2, 2));
        y.rule(2, 2, 1, 5);
        due("20 at none", 7, y.treats(2, 2));
        for (int pack = 5; pack > 0; pack--) {
            int[] want = {0, UNDECIDED, 3, UNDECIDED, 5, UNDECIDED};
            y.pack(pack, false);
            due("20 without pack " + pack, want[pack], y.treats(2, 2));
        }
        due("19 the first is told, though undecided", 1, y.above(2, 2, 0));
    }

    /** "Any other one": also one that stands far behind the first in the order. */
    private static void anyOtherOneFarDown() {
        OctagonYard y = new OctagonYard();
        y.rule(6, 0, 1, 0);
        for (int i = 2; i < 40; i++) {
            y.rule(0, 6, 1, 0);
        }
        due("19 the first", 39, y.above(0, 0, 0));
        due("19 the other", 1, y.above(0, 0, 38));
        due("20 undecided", UNDECIDED, y.treats(0, 0));
        due("20 decided", 39, y.treats(0, 1));
        due("20 decided", 1, y.treats(1, 0));
    }

    /** 21: none, one, all; k, l and l, k are two pairs. */
    private static void undecidedPairs() {
        OctagonYard y = new OctagonYard();
        due("21 none", 0, y.undecided());
        y.rule(0, 8, 1, 1);
        y.rule(6, 5, 1, 2);
        due("21 one", 1, y.undecided());
        due("21 this one", UNDECIDED, y.treats(0, 5));
        due("21 not the other way round", 0, y.treats(5, 0));
        y.rule(8, 0, 1, 0);
        y.rule(5, 6, 1, 0);
        due("21 two", 2, y.undecided());
        y.pack(1, false);
        due("21 one again", 1, y.undecided());
        OctagonYard all = new OctagonYard();
        for (int family = 6; family <= 8; family++) {
            all.rule(family, 9, 1, 0);
        }
        due("21 none yet", 0, all.undecided());
        for (int family = 6; family <= 8; family++) {
            all.rule(9, family, 1, 7);
            due("21 twelve more", 12 * (family - 5), all.undecided());
        }
        all.rule(0, 0, 1, 0);
        due("21 all but one", 35, all.undecided());
        all.pack(7, false);
        due("21 none", 0, all.undecided());
    }

    /** 22: "BAD; STATE: they do not TOUCH; -5: UNDECIDED"; JOINTS 1 and 99. */
    private static void meetNumbers() {
        OctagonYard y = Shapes.withBlocks(3);
        due("22 overlapping", STATE, y.meet(0, 1));
        y.move(1, 4, 0);
        y.move(2, 4, 4);
        due("22 a point", STATE, y.meet(0, 2));
        due("22 touching", 1, y.meet(0, 1));
        due("22 touching", 1, y.meet(1, 2));
        y.rule(0, 0, 99, 1);
        due("22 99", 99, y.meet(0, 1));
        y.pack(1, false);
        y.rule(0, 9, 5, 2);
        y.rule(9, 0, 6, 2);
        due("22 undecided", UNDECIDED, y.meet(0, 1));
        due("22 undecided, but a point", STATE, y.meet(0, 2));
        due("22 same", BAD, y.meet(0, 0));
        y.pack(2, false);
        due("22 rule 0", 1, y.meet(0, 1));
        y.scrap(1);
        due("22 thrown away", BAD, y.meet(0, 1));
        y.undo();
        due("22 back", 1, y.meet(0, 1));
    }

    /** "The JOINT of the TREATING one of their KINDS": the first one's first, as they are now. */
    private static void meetByBothKinds() {
        OctagonYard y = Shapes.withBlocks(2);
        y.move(1, 4, 0);
        y.rule(0, 2, 20, 0);
        y.rule(2, 0, 30, 0);
        y.rule(0, 7, 40, 0);
        due("22 slabs", 1, y.meet(0, 1));
        y.cut(1, 2, 8);
        due("22 slab, wedge", 20, y.meet(0, 1));
        due("22 wedge, slab", 30, y.meet(1, 0));
        y.undo();
        due("22 slabs again", 1, y.meet(0, 1));
        y.cut(1, 2, 9);
        due("22 slab, coffin", 1, y.meet(0, 1));
        y.undo();
        y.cut(1, 2, 7);
        due("22 slab, smaller wedge", 20, y.meet(0, 1));
        y.cut(1, 1, 1);
        due("22 slab, keystone", 40, y.meet(0, 1));
        due("22 keystone, slab", 1, y.meet(1, 0));
    }
}
