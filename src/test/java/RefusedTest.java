import java.util.IdentityHashMap;
import java.util.List;
import java.util.Map;
import java.util.function.Consumer;
import java.util.function.ToLongFunction;

/**
 * "What is refused changes nothing": for each refused call its answer, and that all that can be asked, what
 * comes next and what is undone are the same as without it.
 */
public final class RefusedTest {
    private static final int BAD = -1, STATE = -2, FULL = -3, NONE = -4, NOWHERE = 100000;
    private static final int LOW = Integer.MIN_VALUE, HIGH = Integer.MAX_VALUE;
    private static final Due DUE = new Due("RefusedTest");
    private static final Map<Consumer<OctagonYard>, List<String>> KNOWN = new IdentityHashMap<>();

    /** Of PIECES 0 to 4 number 3 is thrown away, 0 and 4 stand in ASSEMBLIES; eight calls can be undone. */
    private static final Consumer<OctagonYard> WORKED = RefusedTest::work;
    private static final Consumer<OctagonYard> NEW = y -> { };
    private static final Consumer<OctagonYard> SIXTY_PIECES = y -> blocks(y, 60);
    private static final Consumer<OctagonYard> FORTY_RULES = RefusedTest::fortyRules;
    private static final Consumer<OctagonYard> TWELVE_ASSEMBLIES = RefusedTest::twelveAssemblies;
    private static final Consumer<OctagonYard> TWENTY_IN_A_ROW = RefusedTest::twentyInARow;
    private static final Consumer<OctagonYard> FIVE_HUNDRED = RefusedTest::fiveHundred;
    private static final Consumer<OctagonYard> FAR = RefusedTest::far;
    private static final Consumer<OctagonYard> BLOCK_STANDS = RefusedTest::blockStands;
    private static final Consumer<OctagonYard> REST_STANDS = RefusedTest::restStands;
    private static final Consumer<OctagonYard> ALL_UNDONE = RefusedTest::allUndone;

    private static final int[] NO_PIECES = {LOW, -1, 3, 5, 59, 60, HIGH};
    private static final int[] NO_ASSEMBLIES = {LOW, -1, 3, 11, 12, HIGH};

    public static void main(String[] args) {
        lookSees();
        blocksAndCuts();
        movesTurnsScraps();
        questionsOfAPiece();
        questionsOfTwo();
        rules();
        puts();
        questionsOfAnAssembly();
        undos();
        DUE.end();
    }

    private static void work(OctagonYard y) {
        y.rule(5, 9, 20, 0);
        y.rule(8, 0, 30, 2);
        y.rule(6, 6, 40, 3);
        y.pack(3, false);
        y.block(9, 9, 2);
        y.block(5, 5, 7);
        y.cut(0, 2, 15);
        y.cut(0, 3, 6);
        y.move(1, 9, 0);
        y.turn(2, 1);
        y.block(4, 4, 1);
        y.scrap(3);
        Shapes.assemblies(y, 3);
        y.put(0, 0, false);
        y.put(0, 4, false);
        y.put(1, 0, true);
        y.put(1, 4, false);
        y.put(2, 1, true);
    }

    private static void blocks(OctagonYard y, int how) {
        for (int i = 0; i < how; i++) {
            y.block(4, 4, 1);
        }
    }

    private static void fortyRules(OctagonYard y) {
        for (int i = 1; i < 40; i++) {
            y.rule(i % 10, i / 4, 1 + i, i % 8);
        }
    }

    private static void twelveAssemblies(OctagonYard y) {
        y.block(4, 4, 1);
        Shapes.assemblies(y, 12);
        for (int i = 1; i < 12; i++) {
            y.put(i, i - 1, true);
        }
    }

    private static void twentyInARow(OctagonYard y) {
        blocks(y, 2);
        Shapes.assemblies(y, 3);
        Shapes.putTimes(y, 0, 0, false, 20);
        y.put(1, 0, true);
    }

    /** 250 in ASSEMBLY 2, twice that in 3; 4 is empty and stands in 3, too. */
    private static void fiveHundred(OctagonYard y) {
        blocks(y, 2);
        Shapes.assemblies(y, 5);
        Shapes.putTimes(y, 0, 0, false, 20);
        Shapes.putTimes(y, 1, 1, false, 10);
        Shapes.putTimes(y, 2, 0, true, 12);
        y.put(2, 1, true);
        Shapes.putTimes(y, 3, 2, true, 2);
        y.put(3, 4, true);
    }

    private static void far(OctagonYard y) {
        y.block(10, 10, 1);
        for (int i = 0; i < 3; i++) {
            y.move(0, 1000, 0);
        }
        y.move(0, 980, 0);
    }

    private static void blockStands(OctagonYard y) {
        blocks(y, 3);
        y.assembly();
        y.put(0, 2, false);
    }

    private static void restStands(OctagonYard y) {
        blocks(y, 2);
        y.cut(0, 2, 5);
        Shapes.assemblies(y, 2);
        y.put(1, 2, false);
    }

    private static void allUndone(OctagonYard y) {
        blocks(y, 10);
        for (int i = 0; i < 8; i++) {
            y.undo();
        }
    }

    private static List<String> known(Consumer<OctagonYard> run) {
        return KNOWN.computeIfAbsent(run, Look::after);
    }

    private static void refused(String call, long want, Consumer<OctagonYard> run, ToLongFunction<OctagonYard> asked) {
        OctagonYard yard = new OctagonYard();
        run.accept(yard);
        DUE.is(call, want, asked.applyAsLong(yard));
        List<String> without = known(run);
        List<String> with = Look.after(run.andThen(asked::applyAsLong));
        if (!with.equals(without)) {
            int at = 0;
            while (at < with.size() && at < without.size() && with.get(at).equals(without.get(at))) {
                at++;
            }
            String was = at < without.size() ? without.get(at) : "nothing";
            DUE.holds(call + " changed nothing (was: " + was + ")", false);
        } else {
            DUE.holds(call + " changed nothing", true);
        }
    }

    /** The comparison itself must tell a change of each sort. */
    private static void lookSees() {
        List<ToLongFunction<OctagonYard>> changes = List.of(
            y -> y.block(1, 1, 1), y -> y.cut(0, 0, 2), y -> y.move(2, 0, 1), y -> y.move(2, 0, 0),
            y -> y.turn(0, 0), y -> y.scrap(2), y -> y.rule(0, 0, 1, 0), y -> y.pack(3, true), y -> y.pack(7, false),
            y -> y.assembly(), y -> y.put(2, 1, false), y -> y.put(0, 2, false), y -> y.undo());
        for (int i = 0; i < changes.size(); i++) {
            List<String> with = Look.after(WORKED.andThen(changes.get(i)::applyAsLong));
            DUE.holds("a look sees change " + i, !with.equals(known(WORKED)));
        }
    }

    private static void blocksAndCuts() {
        for (int bad : new int[] {LOW, -1, 0, 1001, HIGH}) {
            refused("2 block w " + bad, BAD, WORKED, y -> y.block(bad, 1, 1));
            refused("2 block h " + bad, BAD, WORKED, y -> y.block(1, bad, 1));
            refused("2 block l " + bad, BAD, WORKED, y -> y.block(1, 1, bad));
        }
        refused("2 block, nothing there", BAD, NEW, y -> y.block(0, 0, 0));
        refused("2 block, 60 came", FULL, SIXTY_PIECES, y -> y.block(1, 1, 1));
        refused("2 block, 60 came, BAD", BAD, SIXTY_PIECES, y -> y.block(1, 1, 1001));
        for (int p : NO_PIECES) {
            refused("3 cut p " + p, BAD, WORKED, y -> y.cut(p, 0, 2));
        }
        for (int way : new int[] {LOW, -1, 4, HIGH}) {
            refused("3 cut way " + way, BAD, WORKED, y -> y.cut(1, way, 12));
        }
        for (int c : new int[] {LOW, -4001, 4001, HIGH}) {
            refused("3 cut c " + c, BAD, WORKED, y -> y.cut(1, 0, c));
        }
        // PIECE 1: x 9 to 14, y 0 to 5.
        int[][] edges = {{9, 14}, {0, 5}, {9, 19}, {4, 14}};
        for (int way = 0; way < 4; way++) {
            for (int c : new int[] {-4000, edges[way][0], edges[way][1], 4000}) {
                int w = way;
                refused("3 cut way " + way + " at " + c, STATE, WORKED, y -> y.cut(1, w, c));
            }
        }
        refused("3 cut, 60 came", FULL, SIXTY_PIECES, y -> y.cut(0, 0, 2));
        refused("3 cut, 60 came, STATE", STATE, SIXTY_PIECES, y -> y.cut(0, 0, 4));
        refused("3 cut, 60 came, BAD", BAD, SIXTY_PIECES, y -> y.cut(60, 0, 2));
    }

    private static void movesTurnsScraps() {
        for (int p : NO_PIECES) {
            refused("4 move p " + p, BAD, WORKED, y -> y.move(p, 1, 1));
            refused("5 turn p " + p, BAD, WORKED, y -> y.turn(p, 0));
            refused("6 scrap p " + p, BAD, WORKED, y -> y.scrap(p));
        }
        for (int bad : new int[] {LOW, -1001, 1001, HIGH}) {
            refused("4 move x " + bad, BAD, WORKED, y -> y.move(1, bad, 1));
            refused("4 move y " + bad, BAD, WORKED, y -> y.move(1, 1, bad));
        }
        // E2 is 4000.
        refused("4 move, E2 beyond by x", BAD, FAR, y -> y.move(0, 1, 0));
        refused("4 move, E2 beyond by y", BAD, FAR, y -> y.move(0, 0, 1));
        refused("4 move, E2 beyond by far", BAD, FAR, y -> y.move(0, 1000, 1000));
        refused("4 move, E3 beyond", BAD, FAR, y -> y.move(0, 0, -11));
        for (int way : new int[] {LOW, -1, 3, HIGH}) {
            refused("5 turn way " + way, BAD, WORKED, y -> y.turn(1, way));
        }
        refused("6 scrap what stands", STATE, WORKED, y -> y.scrap(0));
        refused("6 scrap what stands in two", STATE, WORKED, y -> y.scrap(4));
    }

    private static void questionsOfAPiece() {
        for (int p : NO_PIECES) {
            refused("7 bound p " + p, NOWHERE, WORKED, y -> y.bound(p, 0));
            refused("8 about p " + p, BAD, WORKED, y -> y.about(p, 0));
            refused("9 corner p " + p, NOWHERE, WORKED, y -> y.corner(p, 0, 0));
            refused("10 side p " + p, BAD, WORKED, y -> y.side(p, 0));
            refused("11 area p " + p, BAD, WORKED, y -> y.area(p));
            refused("12 volume p " + p, BAD, WORKED, y -> y.volume(p));
            refused("13 inside p " + p, BAD, WORKED, y -> y.inside(p, 0, 0));
            refused("14 waste p " + p, BAD, WORKED, y -> y.waste(p));
        }
        for (int bad : new int[] {LOW, -1, 8, HIGH}) {
            refused("7 bound k " + bad, NOWHERE, WORKED, y -> y.bound(0, bad));
            refused("8 about what " + bad, BAD, WORKED, y -> y.about(0, bad));
            refused("9 corner i " + bad, NOWHERE, WORKED, y -> y.corner(0, bad, 0));
            refused("9 corner what " + bad, NOWHERE, WORKED, y -> y.corner(0, 0, bad));
            refused("10 side i " + bad, BAD, WORKED, y -> y.side(0, bad));
            refused("31 count what " + bad, BAD, WORKED, y -> y.count(bad));
        }
        for (int bad : new int[] {LOW, -10001, 10001, HIGH}) {
            refused("13 inside x " + bad, BAD, WORKED, y -> y.inside(0, bad, 0));
            refused("13 inside y " + bad, BAD, WORKED, y -> y.inside(0, 0, bad));
        }
        refused("8 about what 5", BAD, WORKED, y -> y.about(0, 5));
        refused("9 corner what 2", NOWHERE, WORKED, y -> y.corner(0, 0, 2));
        refused("14 waste of a rest", BAD, WORKED, y -> y.waste(2));
        refused("31 count what 4", BAD, WORKED, y -> y.count(4));
    }

    private static void questionsOfTwo() {
        for (int p : NO_PIECES) {
            refused("15 near a " + p, BAD, WORKED, y -> y.near(p, 0));
            refused("15 near b " + p, BAD, WORKED, y -> y.near(0, p));
            refused("16 touch a " + p, BAD, WORKED, y -> y.touch(p, 0, 0));
            refused("16 touch b " + p, BAD, WORKED, y -> y.touch(0, p, 1));
            refused("22 meet a " + p, BAD, WORKED, y -> y.meet(p, 0));
            refused("22 meet b " + p, BAD, WORKED, y -> y.meet(0, p));
        }
        for (int what : new int[] {LOW, -1, 2, HIGH}) {
            refused("16 touch what " + what, BAD, WORKED, y -> y.touch(0, 1, what));
        }
        refused("15 near the same", BAD, WORKED, y -> y.near(0, 0));
        refused("16 touch the same", BAD, WORKED, y -> y.touch(0, 0, 0));
        refused("22 meet the same", BAD, WORKED, y -> y.meet(0, 0));
        refused("16 touch, apart", NONE, WORKED, y -> y.touch(1, 4, 0));
        refused("16 touch, overlapping", NONE, WORKED, y -> y.touch(0, 4, 1));
        refused("22 meet, apart", STATE, WORKED, y -> y.meet(1, 4));
        refused("22 meet, overlapping", STATE, WORKED, y -> y.meet(0, 4));
    }

    private static void rules() {
        for (int bad : new int[] {LOW, -1, 10, HIGH}) {
            refused("17 rule first " + bad, BAD, WORKED, y -> y.rule(bad, 0, 1, 0));
            refused("17 rule second " + bad, BAD, WORKED, y -> y.rule(0, bad, 1, 0));
        }
        for (int bad : new int[] {LOW, -1, 0, 100, HIGH}) {
            refused("17 rule joint " + bad, BAD, WORKED, y -> y.rule(0, 0, bad, 0));
        }
        for (int bad : new int[] {LOW, -1, 8, HIGH}) {
            refused("17 rule pack " + bad, BAD, WORKED, y -> y.rule(0, 0, 1, bad));
            refused("18 pack on " + bad, BAD, WORKED, y -> y.pack(bad, true));
            refused("18 pack off " + bad, BAD, WORKED, y -> y.pack(bad, false));
        }
        refused("18 pack 0 off", BAD, WORKED, y -> y.pack(0, false));
        refused("17 rule, 40 there", FULL, FORTY_RULES, y -> y.rule(0, 0, 1, 0));
        refused("17 rule, 40 there, BAD", BAD, FORTY_RULES, y -> y.rule(0, 0, 100, 0));
        for (int bad : new int[] {LOW, -1, 6, HIGH}) {
            refused("19 above k " + bad, BAD, WORKED, y -> y.above(bad, 0, 0));
            refused("19 above l " + bad, BAD, WORKED, y -> y.above(0, bad, 0));
            refused("20 treats k " + bad, BAD, WORKED, y -> y.treats(bad, 0));
            refused("20 treats l " + bad, BAD, WORKED, y -> y.treats(0, bad));
        }
        refused("19 above i below", BAD, WORKED, y -> y.above(0, 0, -1));
        refused("19 above, no more", NONE, WORKED, y -> y.above(0, 0, 1));
        refused("19 above, far more", NONE, WORKED, y -> y.above(0, 0, HIGH));
    }

    private static void puts() {
        refused("23 assembly, 12 there", FULL, TWELVE_ASSEMBLIES, OctagonYard::assembly);
        for (int a : NO_ASSEMBLIES) {
            refused("24 put into " + a, BAD, WORKED, y -> y.put(a, 0, false));
            refused("24 put a whole into " + a, BAD, WORKED, y -> y.put(a, 0, true));
            refused("24 put the whole " + a, BAD, WORKED, y -> y.put(0, a, true));
        }
        for (int p : NO_PIECES) {
            refused("24 put piece " + p, BAD, WORKED, y -> y.put(0, p, false));
        }
        refused("24 put into itself", STATE, WORKED, y -> y.put(0, 0, true));
        refused("24 put within what stands in it", STATE, WORKED, y -> y.put(0, 1, true));
        refused("24 put within, deeper", STATE, WORKED, y -> y.put(0, 2, true));
        refused("24 put within, twelve deep", STATE, TWELVE_ASSEMBLIES, y -> y.put(0, 11, true));
        refused("24 put, 20 stand there", FULL, TWENTY_IN_A_ROW, y -> y.put(0, 1, false));
        refused("24 put a whole, 20 stand there", FULL, TWENTY_IN_A_ROW, y -> y.put(0, 2, true));
        refused("24 put, 20 stand there, STATE", STATE, TWENTY_IN_A_ROW, y -> y.put(0, 1, true));
        refused("24 put, 20 stand there, BAD", BAD, TWENTY_IN_A_ROW, y -> y.put(0, 2, false));
        refused("24 put, 500 walked in it", FULL, FIVE_HUNDRED, y -> y.put(3, 0, false));
        refused("24 put a whole, 500 walked in it", FULL, FIVE_HUNDRED, y -> y.put(3, 1, true));
        refused("24 put, 500 walked above it", FULL, FIVE_HUNDRED, y -> y.put(2, 0, false));
        refused("24 put, 500 walked two above it", FULL, FIVE_HUNDRED, y -> y.put(1, 0, false));
        refused("24 put into an empty one, 500 walked above it", FULL, FIVE_HUNDRED, y -> y.put(4, 0, false));
        refused("24 put a whole into an empty one, 500 above", FULL, FIVE_HUNDRED, y -> y.put(4, 1, true));
        refused("24 put, 500 walked, STATE", STATE, FIVE_HUNDRED, y -> y.put(4, 3, true));
    }

    private static void questionsOfAnAssembly() {
        for (int a : NO_ASSEMBLIES) {
            refused("25 walked " + a, BAD, WORKED, y -> y.walked(a));
            refused("26 walk " + a, BAD, WORKED, y -> y.walk(a, 0));
            refused("27 weight " + a, BAD, WORKED, y -> y.weight(a));
            refused("28 price " + a, BAD, WORKED, y -> y.price(a));
            refused("29 check " + a, BAD, WORKED, y -> y.check(a));
        }
        refused("26 walk i below", BAD, WORKED, y -> y.walk(0, -1));
        refused("26 walk, no more", NONE, WORKED, y -> y.walk(0, 2));
        refused("26 walk, far more", NONE, WORKED, y -> y.walk(0, HIGH));
        refused("26 walk, 500 and no more", NONE, FIVE_HUNDRED, y -> y.walk(3, 500));
        refused("29 check, all rest", NONE, WORKED, y -> y.check(0));
    }

    private static void undos() {
        refused("30 undo, nothing came", NONE, NEW, OctagonYard::undo);
        refused("30 undo, eight were", NONE, ALL_UNDONE, OctagonYard::undo);
        refused("30 undo of a block that stands", STATE, BLOCK_STANDS, OctagonYard::undo);
        refused("30 undo of a cut whose rest stands", STATE, REST_STANDS, OctagonYard::undo);
    }
}
