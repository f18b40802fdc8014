import java.util.Random;

/** Long runs of calls, each answer compared with the plain yard's; the same seeds every time. */
public final class RandomRunsTest {
    /** An object is good for 512 calls; one pick from the groups below makes at most nine. */
    private static final int CALLS = 512 - 8;
    private static final String[] MAKING = {"block", "cut", "move", "turn", "scrap", "undo"};
    private static final String[] ASKING = {"bound", "about", "corner", "side", "area", "volume", "inside", "waste",
        "near", "touch", "meet", "near", "touch", "meet", "count"};
    private static final String[] RULING = {"rule", "pack", "above", "treats", "undecided", "rule", "above"};
    private static final String[] BUILDING = {"assembly", "put", "put", "put", "walked", "walk", "weight", "price",
        "check", "check"};

    private final Due due;
    private final int seed;
    private final Random random;
    private final OctagonYard yard = new OctagonYard();
    private final PlainYard plain = new PlainYard();
    private final int size;
    private int pieces;
    private int assemblies;
    private int calls;

    private RandomRunsTest(Due due, int seed) {
        this.due = due;
        this.seed = seed;
        random = new Random(seed);
        size = new int[] {3, 6, 12, 40, 1000}[seed % 5];
    }

    public static void main(String[] args) {
        Due due = new Due("RandomRunsTest");
        for (int seed = 0; seed < 600 && due.allRight(); seed++) {
            new RandomRunsTest(due, seed).run();
        }
        due.end();
    }

    private void run() {
        // How much of each a run has differs, so that some fill up what others leave nearly empty.
        int making = 1 + random.nextInt(8), ruling = random.nextInt(4), building = random.nextInt(8);
        for (int picks = 0; picks < 512 && calls < CALLS; picks++) {
            int at = random.nextInt(making + ruling + building + 8);
            String[] group = at < making ? MAKING
                : at < making + ruling ? RULING
                : at < making + ruling + building ? BUILDING : ASKING;
            call(group[random.nextInt(group.length)]);
        }
    }

    private int from(int low, int high) {
        return low + random.nextInt(high - low + 1);
    }

    /** Mostly within, now and then just outside or far out. */
    private int about(int low, int high) {
        switch (random.nextInt(40)) {
            case 0: return low - 1;
            case 1: return high + 1;
            case 2: return random.nextBoolean() ? Integer.MIN_VALUE : Integer.MAX_VALUE;
            default: return from(low, high);
        }
    }

    private int piece() {
        return about(0, Math.max(0, pieces - 1));
    }

    private int row() {
        return about(0, Math.max(0, assemblies - 1));
    }

    private void same(String call, long want, long got) {
        calls++;
        due.is("seed " + seed + ": " + call, want, got);
    }

    private void call(String name) {
        switch (name) {
            case "block", "cut", "move", "turn", "scrap", "undo" -> make(name);
            case "rule", "pack", "above", "treats", "undecided" -> rule(name);
            case "assembly", "put", "walked", "walk", "weight", "price", "check" -> build(name);
            default -> ask(name);
        }
    }

    private void make(String name) {
        int p = piece();
        switch (name) {
            case "block" -> {
                int w = about(1, size), h = about(1, size), l = about(1, 1000);
                int got = yard.block(w, h, l);
                same("block " + w + " " + h + " " + l, plain.block(w, h, l), got);
                pieces = Math.max(pieces, got + 1);
            }
            case "cut" -> cut(p);
            case "move" -> move(p);
            case "turn" -> {
                int way = about(0, 2);
                same("turn " + p + " " + way, plain.turn(p, way), yard.turn(p, way));
            }
            case "scrap" -> {
                if (random.nextInt(3) == 0) {
                    same("scrap " + p, plain.scrap(p), yard.scrap(p));
                }
            }
            default -> {
                int times = random.nextInt(12) == 0 ? 9 : 1;
                for (int i = 0; i < times; i++) {
                    same("undo", plain.undo(), yard.undo());
                }
            }
        }
    }

    private void cut(int p) {
        for (int tries = 0; tries < 3; tries++) {
            int way = about(0, 3);
            int c = random.nextInt(50) == 0 ? about(-4000, 4000) : from(-size, 2 * size);
            int high = plain.bound(p, way), low = plain.bound(p, way + 4);
            if (high != 100000 && low != 100000 && random.nextInt(5) != 0) {
                c = from(-low, high);
            }
            int got = yard.cut(p, way, c);
            same("cut " + p + " " + way + " " + c, plain.cut(p, way, c), got);
            pieces = Math.max(pieces, got + 1);
        }
    }

    private void move(int p) {
        int reach = random.nextInt(6) == 0 ? 1000 : size;
        int x = about(-reach, reach), y = about(-reach, reach);
        if (random.nextBoolean()) {
            // Beside another one, so that SIDES often meet.
            int q = from(0, Math.max(0, pieces - 1));
            int k = from(0, 1);
            int far = plain.bound(q, k) + plain.bound(p, k + 4);
            x = k == 0 ? far : from(-1, 1);
            y = k == 1 ? far : from(-1, 1);
        }
        same("move " + p + " " + x + " " + y, plain.move(p, x, y), yard.move(p, x, y));
    }

    private void ask(String name) {
        int p = piece(), q = piece();
        switch (name) {
            case "bound" -> {
                int k = about(0, 7);
                same("bound " + p + " " + k, plain.bound(p, k), yard.bound(p, k));
            }
            case "about" -> {
                int what = about(0, 4);
                same("about " + p + " " + what, plain.about(p, what), yard.about(p, what));
            }
            case "corner" -> {
                int i = about(0, 7), what = about(0, 1);
                same("corner " + p + " " + i + " " + what, plain.corner(p, i, what), yard.corner(p, i, what));
            }
            case "side" -> {
                int i = about(0, 7);
                same("side " + p + " " + i, plain.side(p, i), yard.side(p, i));
            }
            case "area" -> same("area " + p, plain.area(p), yard.area(p));
            case "volume" -> same("volume " + p, plain.volume(p), yard.volume(p));
            case "inside" -> inside(p);
            case "waste" -> same("waste " + p, plain.waste(p), yard.waste(p));
            case "near" -> same("near " + p + " " + q, plain.near(p, q), yard.near(p, q));
            case "touch" -> {
                int what = about(0, 1);
                same("touch " + p + " " + q + " " + what, plain.touch(p, q, what), yard.touch(p, q, what));
            }
            case "meet" -> same("meet " + p + " " + q, plain.meet(p, q), yard.meet(p, q));
            default -> {
                int what = about(0, 3);
                same("count " + what, plain.count(what), yard.count(what));
            }
        }
    }

    private void inside(int p) {
        int x = about(-10000, 10000), y = about(-10000, 10000);
        int i = from(0, 7);
        if (plain.corner(p, i, 0) != 100000) {
            x = plain.corner(p, i, 0) + from(-2, 2);
            y = plain.corner(p, i, 1) + from(-2, 2);
        }
        same("inside " + p + " " + x + " " + y, plain.inside(p, x, y), yard.inside(p, x, y));
    }

    private void rule(String name) {
        int k = about(0, 5), l = about(0, 5);
        switch (name) {
            case "rule" -> {
                int first = about(0, 9), second = about(0, 9), joint = about(1, 99), pack = about(0, 7);
                same("rule " + first + " " + second + " " + joint + " " + pack,
                    plain.rule(first, second, joint, pack), yard.rule(first, second, joint, pack));
            }
            case "pack" -> {
                int n = about(0, 7);
                boolean on = random.nextInt(3) != 0;
                same("pack " + n + " " + on, plain.pack(n, on), yard.pack(n, on));
            }
            case "above" -> {
                int i = about(0, 6);
                same("above " + k + " " + l + " " + i, plain.above(k, l, i), yard.above(k, l, i));
            }
            case "treats" -> same("treats " + k + " " + l, plain.treats(k, l), yard.treats(k, l));
            default -> same("undecided", plain.undecided(), yard.undecided());
        }
    }

    private void build(String name) {
        int a = row();
        switch (name) {
            case "assembly" -> {
                int got = yard.assembly();
                same("assembly", plain.assembly(), got);
                assemblies = Math.max(assemblies, got + 1);
            }
            case "put" -> {
                boolean whole = random.nextInt(3) == 0;
                int what = whole ? row() : piece();
                same("put " + a + " " + what + " " + whole, plain.put(a, what, whole), yard.put(a, what, whole));
            }
            case "walked" -> same("walked " + a, plain.walked(a), yard.walked(a));
            case "walk" -> {
                int i = about(0, 30);
                same("walk " + a + " " + i, plain.walk(a, i), yard.walk(a, i));
            }
            case "weight" -> same("weight " + a, plain.weight(a), yard.weight(a));
            case "price" -> same("price " + a, plain.price(a), yard.price(a));
            default -> same("check " + a, plain.check(a), yard.check(a));
        }
    }
}
