import java.util.ArrayList;
import java.util.List;

/**
 * The program makes its rows once and uses them again. So each question is
 * asked of an object that was asked each other question before, when it held
 * much more or something else, and must be answered as by an object that never
 * held anything else.
 */
public final class AskedAgainTest extends Checks {
    private interface Call {
        long on(SecondHelping x);
    }

    private static final List<String> NAMES = new ArrayList<>();
    private static final List<Call> CALLS = new ArrayList<>();

    private static void ask(String name, Call call) {
        NAMES.add(name);
        CALLS.add(call);
    }

    private static void gather() {
        for (int i = 0; i <= 1; i++) {
            int what = i;
            ask("best", x -> x.best(what));
            ask("reading", x -> x.reading(what));
            ask("fits", x -> x.fits(what));
            ask("tellsMost", x -> x.tellsMost(what));
            ask("shared", x -> x.shared(what));
            ask("wants", x -> x.wants(3, 2 * what));
            ask("chance", x -> x.chance(4, what));
            ask("mean", x -> x.mean(what));
            ask("twins", x -> x.twins(what));
            ask("heaps", x -> x.heaps(what));
            ask("pure", x -> x.pure(what));
            ask("greedily", x -> x.greedily(9, what));
            ask("pair", x -> x.pair(4, what));
            ask("radius", x -> x.radius(what));
            ask("banned", x -> x.banned(what));
            ask("lots", x -> x.lots(3, 77, what));
            ask("songs", x -> x.songs(5, 1 + what));
            ask("place", x -> x.place(2, 1 + what));
            ask("saves", x -> x.saves(what - 1));
            ask("moved", x -> x.moved(what - 1));
            ask("order", x -> x.order(7, what - 1));
            ask("like", x -> x.like(what - 1));
            ask("byKind", x -> x.byKind(what - 1));
        }
        ask("same", x -> x.same(0, 2));
        ask("allDue", x -> x.allDue());
        ask("next", x -> x.next(1));
        ask("charged", x -> x.charged(1));
        ask("unlike", x -> x.unlike());
        ask("people", x -> x.people());
        ask("loophole", x -> x.loophole());
        ask("turned", x -> x.turned());
        ask("changed", x -> x.changed());
        ask("inspectors", x -> x.inspectors(2));
        ask("chain", x -> x.chain(0, 1));
        ask("bestT", x -> x.bestT());
        ask("margin", x -> x.margin(0, 40));
        ask("firsts", x -> x.firsts());
        ask("quota", x -> x.quota(40));
        ask("majority", x -> x.majority());
        ask("unlikeMarks", x -> x.unlikeMarks());
        ask("streak", x -> x.streak());
    }

    private static SecondHelping small() {
        SecondHelping x = new SecondHelping();
        x.doing(0, 1, 1);
        x.doing(2, 0, 2);
        x.doing(1, 4, 7);
        x.law(2, 2);
        for (int doing : new int[] {0, 1, 0, 2, 1}) {
            x.does(doing);
        }
        return x;
    }

    private static SecondHelping full() {
        SecondHelping x = new SecondHelping();
        for (int d = 0; d < 8; d++) {
            x.doing(d % 6, 9 - d, d % 3);
        }
        for (int p = 0; p < 12; p++) {
            x.does(p * 3 % 8);
        }
        return x;
    }

    /** From few DOINGS and places to all there can be, every two of them the SAME. */
    private static void grow(SecondHelping x) {
        for (int d = x.count(0); d < 8; d++) {
            x.doing(2, 9, 1);
        }
        x.law(3, 8);
        for (int p = x.count(1); p < 12; p++) {
            x.does(p % 8);
        }
    }

    /** From many places to three, no two of them the SAME. */
    private static void shrink(SecondHelping x) {
        x.empties();
        x.law(2, 8);
        for (int d = 0; d < 3; d++) {
            x.does(d);
        }
    }

    private static SecondHelping make(boolean isSmall) {
        return isSmall ? small() : full();
    }

    /** Asks each question behind each other one that was asked when the object held something else. */
    private static void askAll(boolean isSmall) {
        String start = isSmall ? "few" : "many";
        for (int i = 0; i < CALLS.size(); i++) {
            long want = CALLS.get(i).on(make(isSmall));
            for (int before = 0; before < CALLS.size(); before++) {
                SecondHelping x = make(isSmall);
                x.image();
                if (isSmall) {
                    grow(x);
                } else {
                    shrink(x);
                }
                CALLS.get(before).on(x);
                x.restore();
                due(57, start + ", " + NAMES.get(i) + " behind " + NAMES.get(before), CALLS.get(i).on(x), want);
            }
        }
    }

    /** The smaller one is asked what the larger one was asked, with no image between. */
    private static void askWhileItShrinks() {
        for (int i = 0; i < CALLS.size(); i++) {
            SecondHelping fresh = full();
            shrink(fresh);
            SecondHelping asked = full();
            CALLS.get(i).on(asked);
            shrink(asked);
            due(7, NAMES.get(i) + " again, when it holds less", CALLS.get(i).on(asked), CALLS.get(i).on(fresh));
        }
    }

    public static void main(String[] args) {
        gather();
        askAll(true);
        askAll(false);
        askWhileItShrinks();
        end("what was asked before changes no answer");
    }
}
