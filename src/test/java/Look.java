import java.util.ArrayList;
import java.util.List;
import java.util.function.Consumer;
import java.util.function.ToLongFunction;

/**
 * All that a yard answers once some calls were made on it, so that two such runs can be compared. The run is
 * made anew every few questions, since an object is good for 512 calls.
 */
final class Look {
    private static final int QUESTIONS_A_YARD = 150;
    private static final int NUMBERS = 61;
    private static final int PAIRED = 6;

    private final Consumer<OctagonYard> run;
    private final List<String> answers = new ArrayList<>();
    private OctagonYard yard;
    private int asked;

    private Look(Consumer<OctagonYard> run) {
        this.run = run;
        begin();
    }

    static List<String> after(Consumer<OctagonYard> run) {
        Look look = new Look(run);
        look.pieces();
        look.pairs();
        look.rules();
        look.assemblies();
        look.counts();
        look.whatComesNext();
        look.whatIsUndone();
        return look.answers;
    }

    private void begin() {
        yard = new OctagonYard();
        run.accept(yard);
        asked = 0;
    }

    private long ask(String question, ToLongFunction<OctagonYard> call) {
        if (asked == QUESTIONS_A_YARD) {
            begin();
        }
        asked++;
        long answer = call.applyAsLong(yard);
        answers.add(question + " = " + answer);
        return answer;
    }

    private void pieces() {
        for (int p = 0; p < NUMBERS; p++) {
            int q = p;
            ask("waste " + p, y -> y.waste(q));
            if (ask("area " + p, y -> y.area(q)) != -1) {
                piece(p);
            }
        }
    }

    private void piece(int p) {
        for (int i = 0; i < 8; i++) {
            int k = i;
            ask("bound " + p + " " + i, y -> y.bound(p, k));
            ask("corner " + p + " " + i + " 0", y -> y.corner(p, k, 0));
            ask("corner " + p + " " + i + " 1", y -> y.corner(p, k, 1));
            ask("side " + p + " " + i, y -> y.side(p, k));
        }
        for (int i = 0; i < 5; i++) {
            int what = i;
            ask("about " + p + " " + i, y -> y.about(p, what));
        }
        ask("volume " + p, y -> y.volume(p));
        ask("inside " + p, y -> y.inside(p, 3, 3));
    }

    private void pairs() {
        for (int p = 0; p < PAIRED; p++) {
            for (int q = 0; q < PAIRED; q++) {
                int a = p, b = q;
                ask("near " + a + " " + b, y -> y.near(a, b));
                ask("touch " + a + " " + b + " 0", y -> y.touch(a, b, 0));
                ask("touch " + a + " " + b + " 1", y -> y.touch(a, b, 1));
                ask("meet " + a + " " + b, y -> y.meet(a, b));
            }
        }
    }

    private void rules() {
        ask("undecided", OctagonYard::undecided);
        for (int pair = 0; pair < 36; pair++) {
            int k = pair / 6, l = pair % 6;
            ask("treats " + k + " " + l, y -> y.treats(k, l));
            long found = 0;
            for (int i = 0; found != -4; i++) {
                int at = i;
                found = ask("above " + k + " " + l + " " + i, y -> y.above(k, l, at));
            }
        }
    }

    private void assemblies() {
        for (int i = 0; i < 13; i++) {
            int a = i;
            long walked = ask("walked " + a, y -> y.walked(a));
            for (int j = 0; j <= walked; j++) {
                int at = j;
                ask("walk " + a + " " + j, y -> y.walk(a, at));
            }
            ask("weight " + a, y -> y.weight(a));
            ask("price " + a, y -> y.price(a));
            ask("check " + a, y -> y.check(a));
        }
    }

    private void counts() {
        for (int i = 0; i < 4; i++) {
            int what = i;
            ask("count " + i, y -> y.count(what));
        }
    }

    /** What a new one's number would be, how many stand in each row, which PACKS are on. */
    private void whatComesNext() {
        begin();
        ask("next rule", y -> y.rule(0, 0, 1, 0));
        ask("next assembly", OctagonYard::assembly);
        ask("next block", y -> y.block(1, 1, 1));
        for (int n = 0; n < 8; n++) {
            int pack = n;
            ask("pack " + n, y -> y.pack(pack, true));
        }
        ask("a row to put", OctagonYard::assembly);
        for (int i = 0; i < 12; i++) {
            int a = i;
            ask("in row " + i, y -> y.put(a, y.count(2) - 1, true));
        }
    }

    private void whatIsUndone() {
        for (int times = 1; times <= 9; times++) {
            begin();
            for (int i = 1; i <= times; i++) {
                ask("undo " + i + " of " + times, OctagonYard::undo);
            }
            for (int p = 0; p < NUMBERS; p++) {
                int q = p;
                ask("then area " + p, y -> y.area(q));
            }
            for (int i = 0; i < 8 * PAIRED; i++) {
                int p = i / 8, k = i % 8;
                ask("then bound " + p + " " + k, y -> y.bound(p, k));
            }
            ask("then blocks", y -> y.count(3));
            ask("then block", y -> y.block(1, 1, 1));
        }
    }
}
